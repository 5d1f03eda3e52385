/** One method for each promise: ordinary inputs, the edges that the document names, wrong inputs. */
public final class PromisesTest {
  private static final int NONE = -1;
  private static final int BAD = -2;
  private static final int BUSY = -3;
  private static final int FULL = -4;
  private static final int OFF = 0;
  private static final int DOZING = 1;
  private static final int ON = 2;
  private static final int RUNNING = 0;
  private static final int SINKING = 1;
  private static final int ASLEEP = 2;
  private static final int RISING = 3;
  private static final int BACKING = 4;
  private static final int[] NO_DEVICES = {Integer.MIN_VALUE, -2, -1, 12, 31, 32, 64, Integer.MAX_VALUE};

  private static final Checks checks = new Checks();

  public static void main(String[] args) {
    promise1New();
    promise2Device();
    promise2Refusals();
    promise3Use();
    promise4Release();
    promise5Waker();
    promise6Refuse();
    promise7SignalAsleep();
    promise7SignalSinking();
    promise7SignalElse();
    promise8Sleep();
    promise8Order();
    promise9Watch();
    promise10Kick();
    promise11Tick();
    promise11Idle();
    promise11Reset();
    promise11ResetOnTheWay();
    promise12Phase();
    promise13State();
    promise14Uses();
    promise15Idle();
    promise16Refusals();
    promise17Due();
    promise18Left();
    promise19Named();
    promise20Figure();
    checks.end();
  }

  private static void due(String call, Object got, Object want) {
    checks.due(call, got, want);
  }

  private static String states(DozingDevices x) {
    return Scenes.states(x);
  }

  private static String idles(DozingDevices x) {
    return Scenes.idles(x);
  }

  private static String figures(DozingDevices x) {
    StringBuilder all = new StringBuilder();
    for (int k = 0; k <= 6; k++) all.append(k == 0 ? "" : " ").append(x.figure(k));
    return all.toString();
  }

  private static void promise1New() {
    checks.about("promise 1");
    DozingDevices x = new DozingDevices();
    due("figures", figures(x), "0 0 0 0 0 0 0");
    due("phase()", x.phase(), RUNNING);
    due("due()", x.due(), NONE);
    due("left()", x.left(), 0);
    due("named()", x.named(), NONE);
    due("state(0)", x.state(0), BAD);
    x.tick(200);
    due("figures, the watch being off at first", figures(x), "200 0 0 0 0 0 0");
    due("figures of another", figures(new DozingDevices()), "0 0 0 0 0 0 0");
  }

  private static void promise2Device() {
    checks.about("promise 2");
    DozingDevices x = new DozingDevices();
    due("device(0, 1, 1, 1)", x.device(0, 1, 1, 1), 0);
    due("device(1, 1, 1, 1)", x.device(1, 1, 1, 1), 1);
    due("device(0, 1, 1, 1)", x.device(0, 1, 1, 1), 2);
    x.tick(2);
    due("states", states(x), "111");
    due("device(2, 20, 20, 50)", x.device(2, 20, 20, 50), 3);
    due("all ancestors ON, others not", states(x), "2212");
    due("idle ticks of ancestors", idles(x), "0 0 0 0");
    due("uses(3)", x.uses(3), 0);
    due("refusals(3)", x.refusals(3), 0);
    due("uses of the parent", x.uses(1), 0);
    x.sleep();
    due("signal(3), no waker", x.signal(3), 0);

    DozingDevices y = new DozingDevices();
    y.device(0, 1, 1, 0);
    y.device(0, 1, 1, 0);
    y.tick(3);
    y.device(1, 1, 1, 0);
    due("idle ticks end for ancestors alone", idles(y), "0 3 0");
    y.tick(1);
    due("a new device counts as a child that is ON", idles(y), "0 4 1");

    DozingDevices full = new DozingDevices();
    for (int d = 0; d < 12; d++) due("device " + d, full.device((1 << d) - 1, 1, 1, 1), d);
    due("the 13th", full.device(0, 1, 1, 1), FULL);
    due("the 13th under all", full.device(4095, 20, 20, 50), FULL);
    due("how many", full.figure(6), 12);
    due("twelve deep, one dozes at each tick", full.tick(11), 11);
    due("the first is the last", full.state(0), ON);
    due("the 12th tick", full.tick(1), 1);
  }

  private static void promise2Refusals() {
    checks.about("promise 2, refusals");
    DozingDevices x = new DozingDevices();
    due("parents of none", x.device(1, 1, 1, 0), BAD);
    x.device(0, 1, 1, 1);
    x.tick(1);
    int[][] wrong = {
      {-1, 1, 1, 0}, {Integer.MIN_VALUE, 1, 1, 0}, {2, 1, 1, 0}, {3, 1, 1, 0}, {1 << 12, 1, 1, 0},
      {1 << 30, 1, 1, 0}, {Integer.MAX_VALUE, 1, 1, 0}, {1, 0, 1, 0}, {1, 21, 1, 0}, {1, -1, 1, 0},
      {1, 1, 0, 0}, {1, 1, 21, 0}, {1, 1, -5, 0}, {1, 1, 1, -1}, {1, 1, 1, 51},
      {1, Integer.MAX_VALUE, 1, 0}, {1, 1, Integer.MIN_VALUE, 0}, {1, 1, 1, Integer.MAX_VALUE}
    };
    for (int[] w : wrong) {
      due("device " + java.util.Arrays.toString(w), x.device(w[0], w[1], w[2], w[3]), BAD);
    }
    due("nothing changed", states(x) + " " + figures(x), "1 1 0 0 0 0 0 1");
    due("edges", x.device(1, 20, 20, 0), 1);
    x.sleep();
    due("BAD before BUSY", x.device(4, 1, 1, 0), BAD);
    due("BUSY", x.device(0, 1, 1, 0), BUSY);
    due("how many", x.figure(6), 2);

    DozingDevices full = new DozingDevices();
    for (int d = 0; d < 12; d++) full.device(0, 1, 1, 1);
    full.tick(1);
    due("BAD before FULL", full.device(4096, 1, 1, 0), BAD);
    due("BAD before FULL", full.device(0, 0, 1, 0), BAD);
    due("FULL", full.device(1, 1, 1, 0), FULL);
    due("nothing changed", states(full), "111111111111");
    full.sleep();
    due("BUSY before FULL", full.device(0, 1, 1, 0), BUSY);
  }

  private static void promise3Use() {
    checks.about("promise 3");
    DozingDevices x = new DozingDevices();
    x.device(0, 1, 1, 1);
    x.device(1, 1, 1, 1);
    x.device(1, 1, 1, 1);
    x.device(2, 1, 1, 1);
    due("use(3), all ON", x.use(3), 0);
    due("release(3)", x.release(3), 0);
    x.tick(3);
    due("states", states(x), "1111");
    due("use(3)", x.use(3), 3);
    due("states", states(x), "2212");
    due("idle ticks", idles(x), "0 0 0 0");
    due("use(2)", x.use(2), 1);
    due("use(2)", x.use(2), 0);
    due("uses(2)", x.uses(2), 2);
    due("uses(0)", x.uses(0), 0);
    due("tick(200), what is used stays ON", x.tick(200), 0);
    for (int d : NO_DEVICES) due("use(" + d + ")", x.use(d), BAD);
    due("use(4)", x.use(4), BAD);
    x.sleep();
    due("use(4), BAD before BUSY", x.use(4), BAD);
    due("use(0)", x.use(0), BUSY);
    due("uses(0)", x.uses(0), 0);

    DozingDevices y = new DozingDevices();
    y.device(0, 1, 1, 0);
    y.device(0, 1, 1, 0);
    y.tick(7);
    due("idle ticks", idles(y), "7 7");
    due("use(1)", y.use(1), 0);
    due("idle ticks of the used one end at once", idles(y), "7 0");

    DozingDevices chain = new DozingDevices();
    for (int d = 0; d < 6; d++) chain.device(d == 0 ? 0 : 1 << (d - 1), 1, 1, 1);
    due("tick(6)", chain.tick(6), 6);
    due("use(4), ancestors of ancestors too", chain.use(4), 5);
    due("states", states(chain), "222221");
  }

  private static void promise4Release() {
    checks.about("promise 4");
    DozingDevices x = new DozingDevices();
    x.device(0, 1, 1, 2);
    due("release(0), no uses", x.release(0), NONE);
    x.use(0);
    x.use(0);
    x.use(0);
    due("release(0)", x.release(0), 2);
    due("release(0)", x.release(0), 1);
    x.tick(5);
    due("state(0)", x.state(0), ON);
    due("release(0)", x.release(0), 0);
    due("idle(0)", x.idle(0), 0);
    due("tick(1)", x.tick(1), 0);
    due("tick(1)", x.tick(1), 1);
    due("release(0)", x.release(0), NONE);
    due("state(0), still dozing", x.state(0), DOZING);
    due("uses(0)", x.uses(0), 0);
    for (int d : NO_DEVICES) due("release(" + d + ")", x.release(d), BAD);
    due("release(1)", x.release(1), BAD);
    x.use(0);
    x.sleep();
    due("release(1), BAD before BUSY", x.release(1), BAD);
    due("release(0)", x.release(0), BUSY);
    due("uses(0)", x.uses(0), 1);

    DozingDevices y = new DozingDevices();
    y.device(0, 1, 1, 2);
    y.sleep();
    due("BUSY before NONE", y.release(0), BUSY);
  }

  private static void promise5Waker() {
    checks.about("promise 5");
    DozingDevices x = new DozingDevices();
    due("waker(0, true), no device", x.waker(0, true), false);
    x.device(0, 2, 2, 0);
    for (int d : NO_DEVICES) due("waker(" + d + ", true)", x.waker(d, true), false);
    due("waker(1, false)", x.waker(1, false), false);
    due("waker(0, true)", x.waker(0, true), true);
    due("waker(0, false)", x.waker(0, false), true);
    x.sleep();
    due("signal(0)", x.signal(0), 0);
    due("waker(0, true) while SINKING", x.waker(0, true), true);
    due("signal(0)", x.signal(0), 1);
    x.sleep();
    x.tick(2);
    due("waker(0, false) while ASLEEP", x.waker(0, false), true);
    due("signal(0)", x.signal(0), 0);
    due("waker(0, true) while ASLEEP", x.waker(0, true), true);
    due("signal(0)", x.signal(0), 1);
    due("waker(0, false) while RISING", x.waker(0, false), true);
    due("it comes back all the same", x.tick(2), 1);
  }

  private static void promise6Refuse() {
    checks.about("promise 6");
    DozingDevices x = new DozingDevices();
    due("refuse(0, 0), no device", x.refuse(0, 0), false);
    x.device(0, 1, 1, 0);
    for (int d : NO_DEVICES) due("refuse(" + d + ", 1)", x.refuse(d, 1), false);
    due("refuse(0, 9)", x.refuse(0, 9), true);
    due("refuse(0, 10)", x.refuse(0, 10), false);
    due("refuse(0, -1)", x.refuse(0, -1), false);
    due("refusals(0)", x.refusals(0), 9);
    due("refuse(0, 2)", x.refuse(0, 2), true);
    due("refusals(0), no sum", x.refusals(0), 2);
    for (int left = 1; left >= 0; left--) {
      x.sleep();
      due("tick(1), refused", x.tick(1), 0);
      due("refusals(0)", x.refusals(0), left);
      due("phase()", x.phase(), RUNNING);
    }
    x.sleep();
    due("refuse(0, 1) while SINKING", x.refuse(0, 1), true);
    x.tick(1);
    due("state(0)", x.state(0), ON);
    x.refuse(0, 5);
    x.sleep();
    due("refuse(0, 0) while SINKING", x.refuse(0, 0), true);
    x.tick(1);
    due("phase()", x.phase(), ASLEEP);
    due("refuse(0, 3) while ASLEEP", x.refuse(0, 3), true);
    due("refusals(0)", x.refusals(0), 3);
    due("figures", figures(x), "4 0 0 1 3 1 1");
  }

  private static void promise7SignalAsleep() {
    checks.about("promise 7, asleep");
    DozingDevices x = new DozingDevices();
    x.device(0, 1, 3, 0);
    x.device(1, 1, 1, 1);
    x.device(1, 2, 4, 0);
    x.waker(1, true);
    x.tick(1);
    due("states", states(x), "212");
    x.sleep();
    due("tick(200)", x.tick(200), 3);
    due("phase()", x.phase(), ASLEEP);
    due("states", states(x), "000");
    due("signal(2), no waker", x.signal(2), 0);
    due("phase()", x.phase(), ASLEEP);
    due("signal(1)", x.signal(1), 1);
    due("phase()", x.phase(), RISING);
    due("due()", x.due(), 0);
    due("left()", x.left(), 3);
    due("named()", x.named(), NONE);
    due("tick(2)", x.tick(2), 0);
    due("tick(1), one back and a dozing one at once", x.tick(1), 2);
    due("states", states(x), "210");
    due("due()", x.due(), 2);
    due("left()", x.left(), 4);
    due("tick(4)", x.tick(4), 1);
    due("phase()", x.phase(), RUNNING);
    due("states", states(x), "212");
    due("figures", figures(x), "208 0 0 1 0 0 3");
  }

  private static void promise7SignalSinking() {
    checks.about("promise 7, sinking");
    DozingDevices x = new DozingDevices();
    x.device(0, 5, 1, 0);
    x.device(1, 2, 3, 0);
    x.device(2, 1, 4, 1);
    x.waker(1, true);
    x.tick(1);
    due("states", states(x), "221");
    x.sleep();
    due("states", states(x), "220");
    due("tick(3)", x.tick(3), 1);
    due("due()", x.due(), 0);
    due("left()", x.left(), 4);
    due("signal(1)", x.signal(1), 1);
    due("phase()", x.phase(), BACKING);
    due("named()", x.named(), 1);
    due("figure(4)", x.figure(4), 1);
    due("figure(5)", x.figure(5), 2);
    due("due()", x.due(), 1);
    due("left()", x.left(), 3);
    due("the one that was due stays ON", states(x), "200");
    due("signal(1) while BACKING", x.signal(1), 0);
    due("figure(4)", x.figure(4), 1);
    due("tick(3)", x.tick(3), 2);
    due("states", states(x), "221");
    due("phase()", x.phase(), RUNNING);
    due("figure(3)", x.figure(3), 0);

    x.use(2);
    x.sleep();
    due("signal(1), none being OFF", x.signal(1), 1);
    due("phase(), at once", x.phase(), RUNNING);
    due("due()", x.due(), NONE);
    due("left()", x.left(), 0);
    due("figure(4)", x.figure(4), 2);
    due("uses(2)", x.uses(2), 1);
  }

  private static void promise7SignalElse() {
    checks.about("promise 7, else");
    DozingDevices x = new DozingDevices();
    due("signal(0), no device", x.signal(0), BAD);
    x.device(0, 2, 2, 0);
    for (int d : NO_DEVICES) due("signal(" + d + ")", x.signal(d), BAD);
    due("signal(1)", x.signal(1), BAD);
    x.waker(0, true);
    due("signal(0) while RUNNING", x.signal(0), 0);
    due("phase()", x.phase(), RUNNING);
    x.sleep();
    x.tick(2);
    x.signal(0);
    x.tick(1);
    due("signal(0) while RISING", x.signal(0), 0);
    due("phase()", x.phase(), RISING);
    due("left()", x.left(), 1);
    due("named()", x.named(), NONE);
    x.tick(1);
    x.waker(0, false);
    x.sleep();
    due("signal(0), no waker, while SINKING", x.signal(0), 0);
    due("phase()", x.phase(), SINKING);
  }

  private static void promise8Sleep() {
    checks.about("promise 8");
    DozingDevices none = new DozingDevices();
    due("sleep() without devices", none.sleep(), ASLEEP);
    due("figure(3)", none.figure(3), 1);
    due("sleep()", none.sleep(), BUSY);
    due("figure(3)", none.figure(3), 1);

    DozingDevices dozing = new DozingDevices();
    dozing.device(0, 1, 1, 1);
    dozing.device(0, 1, 1, 1);
    dozing.waker(0, true);
    dozing.tick(1);
    due("sleep(), none being ON", dozing.sleep(), ASLEEP);
    due("states", states(dozing), "00");
    due("signal(0)", dozing.signal(0), 1);
    due("phase(), at once", dozing.phase(), RUNNING);
    due("states", states(dozing), "11");
    due("idle ticks stay", idles(dozing), "1 1");

    DozingDevices x = new DozingDevices();
    x.device(0, 2, 1, 0);
    x.device(1, 20, 20, 1);
    x.use(0);
    x.tick(1);
    due("sleep(), uses being no hindrance", x.sleep(), SINKING);
    due("states", states(x), "20");
    due("sleep()", x.sleep(), BUSY);
    due("tick(1)", x.tick(1), 0);
    due("sleep()", x.sleep(), BUSY);
    due("left()", x.left(), 1);
    due("tick(1)", x.tick(1), 1);
    due("phase()", x.phase(), ASLEEP);
    due("sleep()", x.sleep(), BUSY);
    x.waker(1, true);
    x.signal(1);
    due("sleep() while RISING", x.sleep(), BUSY);
    x.tick(1);
    due("states", states(x), "21");
    due("uses(0)", x.uses(0), 1);
    x.refuse(0, 1);
    x.use(1);
    x.sleep();
    x.tick(22);
    due("phase()", x.phase(), BACKING);
    due("sleep() while BACKING", x.sleep(), BUSY);
    due("tick(20), into the newer state in mind", x.tick(20), 1);
    due("states", states(x), "22");
  }

  private static void promise8Order() {
    checks.about("promise 8, the order");
    DozingDevices x = new DozingDevices();
    x.device(0, 1, 1, 0); // depth 0
    x.device(1, 1, 1, 0); // depth 1
    x.device(2, 1, 1, 0); // depth 2
    x.device(0, 1, 1, 0); // depth 0
    x.device(13, 1, 1, 0); // depth 3, by its deepest parent
    x.device(8, 1, 1, 0); // depth 1
    x.device(1, 1, 1, 0); // depth 1
    x.waker(0, true);
    x.sleep();
    int[] order = {0, 3, 1, 5, 6, 2, 4};
    for (int i = 6; i >= 0; i--) {
      due("due() against the order", x.due(), order[i]);
      due("tick(1)", x.tick(1), 1);
    }
    due("phase()", x.phase(), ASLEEP);
    x.signal(0);
    for (int i = 0; i <= 6; i++) {
      due("due() in the order", x.due(), order[i]);
      due("tick(1)", x.tick(1), 1);
    }
    due("phase()", x.phase(), RUNNING);
  }

  private static void promise9Watch() {
    checks.about("promise 9");
    DozingDevices x = new DozingDevices();
    int[] wrong = {-1, 101, Integer.MIN_VALUE, Integer.MAX_VALUE};
    due("watch(100)", x.watch(100), true);
    x.tick(60);
    for (int limit : wrong) due("watch(" + limit + ")", x.watch(limit), false);
    due("figure(1), nothing changed", x.figure(1), 60);
    x.tick(40);
    due("figure(1)", x.figure(1), 100);
    due("figure(2)", x.figure(2), 0);
    x.tick(1);
    due("figure(1)", x.figure(1), 0);
    due("figure(2)", x.figure(2), 1);
    x.tick(50);
    due("watch(1)", x.watch(1), true);
    due("figure(1), no ticks since", x.figure(1), 0);
    x.tick(4);
    due("figure(2), on after a reset too", x.figure(2), 3);
    x.tick(1);
    due("watch(0)", x.watch(0), true);
    due("figure(1)", x.figure(1), 0);
    x.tick(200);
    due("figure(1), off", x.figure(1), 0);
    due("figure(2)", x.figure(2), 3);
    x.sleep();
    due("watch(5) while ASLEEP", x.watch(5), true);
    x.tick(200);
    due("figure(1), asleep", x.figure(1), 0);
    due("phase()", x.phase(), ASLEEP);
  }

  private static void promise10Kick() {
    checks.about("promise 10");
    DozingDevices x = new DozingDevices();
    due("kick(), the watch being off", x.kick(), 0);
    x.tick(5);
    due("kick()", x.kick(), 0);
    x.watch(3);
    for (int i = 0; i < 5; i++) {
      x.tick(3);
      due("kick() in time", x.kick(), 3);
      due("kick() again", x.kick(), 0);
    }
    due("figure(2)", x.figure(2), 0);
    x.tick(5);
    due("kick() after a reset", x.kick(), 1);
    due("figure(2)", x.figure(2), 1);
    x.device(0, 2, 2, 0);
    x.sleep();
    x.tick(10);
    due("kick() while ASLEEP", x.kick(), 2);
    due("figure(1)", x.figure(1), 0);
  }

  private static void promise11Tick() {
    checks.about("promise 11");
    DozingDevices x = new DozingDevices();
    x.device(0, 3, 2, 4);
    due("tick(0)", x.tick(0), 0);
    due("figure(0)", x.figure(0), 0);
    int[] wrong = {-1, 201, Integer.MIN_VALUE, Integer.MAX_VALUE};
    for (int n : wrong) due("tick(" + n + ")", x.tick(n), BAD);
    due("figure(0)", x.figure(0), 0);
    due("tick(200)", x.tick(200), 1);
    due("figure(0)", x.figure(0), 200);

    DozingDevices y = new DozingDevices();
    y.device(0, 1, 1, 1);
    y.device(0, 2, 1, 0);
    y.refuse(1, 1);
    y.tick(1);
    y.sleep();
    due("states", states(y), "12");
    due("tick(1)", y.tick(1), 0);
    due("tick(1), refused with none being OFF", y.tick(1), 0);
    due("phase()", y.phase(), RUNNING);
    y.use(0);
    y.release(0);
    y.device(2, 3, 2, 1);
    y.tick(1);
    due("states", states(y), "121");
    y.refuse(1, 1);
    y.sleep();
    due("states", states(y), "120");
    due("tick(2), a dozing one comes back within the tick", y.tick(2), 1);
    due("states", states(y), "121");
    due("phase()", y.phase(), RUNNING);

    DozingDevices z = new DozingDevices();
    z.device(0, 1, 1, 1);
    z.watch(2);
    due("tick(30), dozing and reset in turn, each counted", z.tick(30), 20);
    due("figure(2)", z.figure(2), 10);
  }

  private static void promise11Idle() {
    checks.about("promise 11, idle ticks");
    DozingDevices x = new DozingDevices();
    x.device(0, 1, 1, 2);
    x.device(1, 1, 1, 2);
    x.device(0, 1, 1, 0);
    due("tick(1)", x.tick(1), 0);
    due("idle ticks", idles(x), "0 1 1");
    due("tick(1)", x.tick(1), 1);
    due("the child was ON before this tick", idles(x), "0 2 2");
    due("states", states(x), "212");
    due("tick(1)", x.tick(1), 0);
    due("one that dozes has none", idles(x), "1 0 3");
    due("tick(1)", x.tick(1), 1);
    due("states", states(x), "112");
    due("tick(1)", x.tick(1), 0);
    due("idle ticks", idles(x), "0 0 5");
    x.sleep();
    x.tick(3);
    due("idle ticks stay while not RUNNING", idles(x), "0 0 5");
    x.waker(2, true);
    x.signal(2);
    x.tick(1);
    due("phase()", x.phase(), RUNNING);
    due("idle ticks", idles(x), "0 0 5");
    x.tick(1);
    due("idle ticks", idles(x), "0 0 6");
    x.use(2);
    x.tick(1);
    due("one that is used has none", idles(x), "0 0 0");
    x.release(2);
    x.tick(3);
    due("idle ticks", idles(x), "0 0 3");

    DozingDevices edge = new DozingDevices();
    edge.device(0, 1, 1, 50);
    due("tick(49)", edge.tick(49), 0);
    due("tick(1)", edge.tick(1), 1);
    due("idle(0)", edge.idle(0), 50);

    DozingDevices away = new DozingDevices();
    away.device(0, 1, 1, 3);
    away.waker(0, true);
    away.tick(2);
    away.sleep();
    away.tick(10);
    away.signal(0);
    due("tick(1)", away.tick(1), 1);
    due("tick(1), its idle ticks go on", away.tick(1), 1);
    due("state(0)", away.state(0), DOZING);
  }

  private static void promise11Reset() {
    checks.about("promise 11, reset");
    DozingDevices x = new DozingDevices();
    x.device(0, 1, 1, 0);
    x.device(0, 1, 1, 1);
    x.device(2, 1, 1, 1);
    x.waker(0, true);
    x.refuse(1, 2);
    x.use(0);
    x.sleep();
    x.signal(0);
    due("named()", x.named(), 0);
    x.watch(4);
    x.tick(4);
    due("states", states(x), "211");
    due("phase()", x.phase(), RUNNING);
    due("tick(1), once for each that was not ON", x.tick(1), 2);
    due("states", states(x), "222");
    due("idle ticks, nothing more in this tick", idles(x), "0 0 0");
    due("uses(0)", x.uses(0), 0);
    due("named()", x.named(), NONE);
    due("figures", figures(x), "5 0 1 0 1 0 3");
    due("refusals(1) stay", x.refusals(1), 2);
    x.sleep();
    due("a waker stays one", x.signal(0), 1);

    DozingDevices y = new DozingDevices();
    y.device(0, 1, 1, 3);
    y.watch(2);
    y.tick(2);
    due("idle(0)", y.idle(0), 2);
    due("tick(1)", y.tick(1), 0);
    due("idle(0), one that was ON has none either", y.idle(0), 0);
  }

  private static void promise11ResetOnTheWay() {
    checks.about("promise 11, reset on the way");
    DozingDevices x = new DozingDevices();
    x.device(0, 3, 3, 0);
    x.device(1, 1, 1, 1);
    x.waker(0, true);
    x.tick(1);
    x.watch(2);
    x.sleep();
    due("tick(2)", x.tick(2), 0);
    due("tick(1), the reset comes before the due device", x.tick(1), 1);
    due("phase()", x.phase(), RUNNING);
    due("due()", x.due(), NONE);
    due("left()", x.left(), 0);
    due("figure(2)", x.figure(2), 1);
    due("figure(3)", x.figure(3), 0);
    due("figure(4), no sleep given up", x.figure(4), 0);
    due("states", states(x), "22");

    x.watch(0);
    x.sleep();
    x.tick(4);
    due("phase()", x.phase(), ASLEEP);
    x.watch(2);
    x.signal(0);
    due("tick(3) while RISING", x.tick(3), 2);
    due("phase()", x.phase(), RUNNING);
    due("due()", x.due(), NONE);
    due("states", states(x), "22");

    x.watch(0);
    x.device(2, 1, 9, 0);
    x.sleep();
    x.tick(1);
    x.signal(0);
    due("phase()", x.phase(), BACKING);
    x.watch(1);
    due("tick(2) while BACKING", x.tick(2), 1);
    due("phase()", x.phase(), RUNNING);
    due("named()", x.named(), NONE);
    due("figures", figures(x), "14 0 3 1 1 0 3");
  }

  private static void promise12Phase() {
    checks.about("promise 12");
    DozingDevices x = new DozingDevices();
    x.device(0, 2, 2, 0);
    x.device(1, 1, 1, 0);
    x.waker(0, true);
    due("phase()", x.phase(), RUNNING);
    x.sleep();
    due("phase()", x.phase(), SINKING);
    x.tick(2);
    due("phase()", x.phase(), SINKING);
    x.tick(1);
    due("phase()", x.phase(), ASLEEP);
    x.signal(0);
    due("phase()", x.phase(), RISING);
    x.tick(2);
    due("phase()", x.phase(), RISING);
    x.tick(1);
    due("phase()", x.phase(), RUNNING);
    x.refuse(0, 1);
    x.sleep();
    x.tick(3);
    due("phase()", x.phase(), BACKING);
    x.tick(1);
    due("phase()", x.phase(), RUNNING);
  }

  private static void promise13State() {
    checks.about("promise 13");
    DozingDevices x = new DozingDevices();
    for (int d : NO_DEVICES) due("state(" + d + ")", x.state(d), BAD);
    x.device(0, 1, 1, 1);
    due("state(0)", x.state(0), ON);
    due("state(1)", x.state(1), BAD);
    x.tick(1);
    due("state(0)", x.state(0), DOZING);
    x.sleep();
    due("state(0)", x.state(0), OFF);
    for (int d : NO_DEVICES) due("state(" + d + ")", x.state(d), BAD);
  }

  private static void promise14Uses() {
    checks.about("promise 14");
    DozingDevices x = new DozingDevices();
    due("uses(0)", x.uses(0), BAD);
    x.device(0, 1, 1, 1);
    x.device(1, 1, 1, 1);
    for (int i = 1; i <= 200; i++) {
      x.use(1);
      due("uses(1)", x.uses(1), i);
    }
    due("uses(0)", x.uses(0), 0);
    x.release(1);
    due("uses(1)", x.uses(1), 199);
    x.sleep();
    x.tick(5);
    due("uses(1) while ASLEEP", x.uses(1), 199);
    due("uses(2)", x.uses(2), BAD);
    for (int d : NO_DEVICES) due("uses(" + d + ")", x.uses(d), BAD);
  }

  private static void promise15Idle() {
    checks.about("promise 15");
    DozingDevices x = new DozingDevices();
    due("idle(0)", x.idle(0), BAD);
    x.device(0, 1, 1, 0);
    due("idle(0)", x.idle(0), 0);
    x.tick(200);
    x.tick(200);
    due("idle(0), no delay and no end", x.idle(0), 400);
    due("state(0)", x.state(0), ON);
    x.use(0);
    due("idle(0)", x.idle(0), 0);
    due("idle(1)", x.idle(1), BAD);
    for (int d : NO_DEVICES) due("idle(" + d + ")", x.idle(d), BAD);
  }

  private static void promise16Refusals() {
    checks.about("promise 16");
    DozingDevices x = new DozingDevices();
    due("refusals(0)", x.refusals(0), BAD);
    x.device(0, 1, 1, 1);
    x.device(0, 1, 1, 0);
    due("refusals(0)", x.refusals(0), 0);
    x.refuse(0, 4);
    x.refuse(1, 3);
    due("refusals(0)", x.refusals(0), 4);
    x.tick(1);
    x.sleep();
    x.tick(1);
    due("refusals(1)", x.refusals(1), 2);
    due("refusals(0), not reached", x.refusals(0), 4);
    x.refuse(1, 0);
    x.sleep();
    x.tick(1);
    due("one that dozes never refuses", x.phase(), ASLEEP);
    due("refusals(0)", x.refusals(0), 4);
    due("refusals(2)", x.refusals(2), BAD);
    for (int d : NO_DEVICES) due("refusals(" + d + ")", x.refusals(d), BAD);
  }

  private static void promise17Due() {
    checks.about("promise 17");
    DozingDevices x = new DozingDevices();
    x.device(0, 2, 2, 0);
    x.device(0, 1, 1, 0);
    x.waker(1, true);
    due("due()", x.due(), NONE);
    x.sleep();
    due("due()", x.due(), 1);
    x.tick(1);
    due("due()", x.due(), 0);
    x.tick(2);
    due("due() while ASLEEP", x.due(), NONE);
    x.signal(1);
    due("due()", x.due(), 0);
    x.tick(2);
    due("due()", x.due(), 1);
    x.tick(1);
    due("due() while RUNNING", x.due(), NONE);
  }

  private static void promise18Left() {
    checks.about("promise 18");
    DozingDevices x = new DozingDevices();
    x.device(0, 20, 3, 0);
    x.waker(0, true);
    due("left()", x.left(), 0);
    x.sleep();
    for (int left = 20; left >= 1; left--) {
      due("left() while SINKING", x.left(), left);
      x.tick(1);
    }
    due("left() while ASLEEP", x.left(), 0);
    x.tick(3);
    due("left() while ASLEEP", x.left(), 0);
    x.signal(0);
    for (int left = 3; left >= 1; left--) {
      due("left() while RISING", x.left(), left);
      x.tick(1);
    }
    due("left() while RUNNING", x.left(), 0);
    x.sleep();
    x.tick(5);
    x.signal(0);
    due("left() after giving up", x.left(), 0);
  }

  private static void promise19Named() {
    checks.about("promise 19");
    DozingDevices x = new DozingDevices();
    x.device(0, 1, 1, 0);
    x.device(0, 1, 1, 0);
    x.waker(0, true);
    due("named()", x.named(), NONE);
    x.refuse(1, 1);
    x.sleep();
    due("named()", x.named(), NONE);
    x.tick(1);
    due("named(), by a refusal", x.named(), 1);
    x.sleep();
    due("named() while SINKING again", x.named(), 1);
    x.tick(2);
    due("named(), another sleep came off since", x.named(), 1);
    x.signal(0);
    due("named(), a waker of those asleep is not", x.named(), 1);
    x.tick(2);
    x.sleep();
    x.signal(0);
    due("named(), by a signal", x.named(), 0);
    x.watch(1);
    x.tick(2);
    due("named(), after a reset", x.named(), NONE);
  }

  private static void promise20Figure() {
    checks.about("promise 20");
    DozingDevices x = new DozingDevices();
    int[] wrong = {-1, 7, Integer.MIN_VALUE, Integer.MAX_VALUE};
    for (int k : wrong) due("figure(" + k + ")", x.figure(k), BAD);
    x.device(0, 1, 1, 0);
    x.device(0, 1, 1, 0);
    x.waker(0, true);
    due("figures", figures(x), "0 0 0 0 0 0 2");
    x.watch(50);
    x.tick(7);
    due("figures", figures(x), "7 7 0 0 0 0 2");
    x.refuse(0, 1);
    x.sleep();
    x.tick(2);
    due("figures, refused", figures(x), "9 9 0 0 1 1 2");
    x.tick(1);
    x.sleep();
    x.tick(12);
    due("figures, asleep", figures(x), "22 12 0 1 1 1 2");
    x.signal(0);
    x.tick(2);
    due("figures, awake", figures(x), "24 14 0 1 1 1 2");
    x.sleep();
    x.signal(0);
    due("figures, by a signal", figures(x), "24 14 0 1 2 2 2");
    x.tick(37);
    due("figures, reset", figures(x), "61 0 1 1 2 0 2");
    x.sleep();
    x.tick(2);
    due("figures, asleep again", figures(x), "63 2 1 2 2 0 2");
  }
}
