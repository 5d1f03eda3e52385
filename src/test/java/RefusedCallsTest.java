import java.util.ArrayList;
import java.util.List;
import java.util.function.Function;

/**
 * "A call that is refused changes nothing": each refused call is made in each phase in which it is
 * refused, and the object then goes through a long run beside a twin that was spared the call, so
 * that a change of what can't be asked (a waker, the limit, the state in mind) is found too.
 */
public final class RefusedCallsTest {
  private static final int NONE = DozingDevices.NONE;
  private static final int BAD = DozingDevices.BAD;
  private static final int BUSY = DozingDevices.BUSY;
  private static final int FULL = DozingDevices.FULL;
  private static final int RUNNING = 0;
  private static final int BACKING = 4;
  private static final int[] NO_DEVICES = {-1, 3, 12, 31, 32, Integer.MIN_VALUE, Integer.MAX_VALUE};

  private static final Checks checks = new Checks();

  private record Refused(String call, Object want, Function<DozingDevices, Object> made) {}

  public static void main(String[] args) {
    for (int phase = RUNNING; phase <= BACKING; phase++) {
      checks.about("refused in the phase " + phase);
      List<Refused> all = inAnyPhase();
      all.addAll(phase == RUNNING ? whileRunning() : whileBusy());
      for (Refused refused : all) changesNothing(refused, phase);
    }
    fullChangesNothing();
    unheardSignalsChangeNothing();
    askingChangesNothing();
    checks.end();
  }

  private static List<Refused> inAnyPhase() {
    List<Refused> all = new ArrayList<>();
    for (int parents : new int[] {-1, 8, 15, 4096, 1 << 30, Integer.MIN_VALUE}) {
      all.add(new Refused("device(" + parents + ", 1, 1, 0)", BAD, x -> x.device(parents, 1, 1, 0)));
    }
    for (int ticks : new int[] {0, 21, -1}) {
      all.add(new Refused("device(3, " + ticks + ", 1, 0)", BAD, x -> x.device(3, ticks, 1, 0)));
      all.add(new Refused("device(3, 1, " + ticks + ", 0)", BAD, x -> x.device(3, 1, ticks, 0)));
    }
    for (int delay : new int[] {-1, 51}) {
      all.add(new Refused("device(3, 1, 1, " + delay + ")", BAD, x -> x.device(3, 1, 1, delay)));
    }
    for (int d : NO_DEVICES) {
      all.add(new Refused("use(" + d + ")", BAD, x -> x.use(d)));
      all.add(new Refused("release(" + d + ")", BAD, x -> x.release(d)));
      all.add(new Refused("waker(" + d + ", true)", false, x -> x.waker(d, true)));
      all.add(new Refused("waker(" + d + ", false)", false, x -> x.waker(d, false)));
      all.add(new Refused("refuse(" + d + ", 1)", false, x -> x.refuse(d, 1)));
      all.add(new Refused("signal(" + d + ")", BAD, x -> x.signal(d)));
    }
    for (int n : new int[] {-1, 10}) {
      all.add(new Refused("refuse(0, " + n + ")", false, x -> x.refuse(0, n)));
    }
    for (int limit : new int[] {-1, 101}) {
      all.add(new Refused("watch(" + limit + ")", false, x -> x.watch(limit)));
    }
    for (int n : new int[] {-1, 201}) all.add(new Refused("tick(" + n + ")", BAD, x -> x.tick(n)));
    return all;
  }

  private static List<Refused> whileRunning() {
    List<Refused> all = new ArrayList<>();
    all.add(new Refused("release(1), dozing", NONE, x -> x.release(1)));
    all.add(new Refused("release(2), idle", NONE, x -> x.release(2)));
    return all;
  }

  private static List<Refused> whileBusy() {
    List<Refused> all = new ArrayList<>();
    all.add(new Refused("device(7, 1, 1, 0)", BUSY, x -> x.device(7, 1, 1, 0)));
    for (int d = 0; d < 3; d++) {
      int of = d;
      all.add(new Refused("use(" + d + ")", BUSY, x -> x.use(of)));
      all.add(new Refused("release(" + d + ")", BUSY, x -> x.release(of)));
    }
    all.add(new Refused("sleep()", BUSY, x -> x.sleep()));
    return all;
  }

  private static void changesNothing(Refused refused, int phase) {
    DozingDevices spared = Scenes.inPhase(phase);
    DozingDevices asked = Scenes.inPhase(phase);
    checks.due("phase()", asked.phase(), phase);
    checks.due(refused.call, refused.made.apply(asked), refused.want);
    checks.due("whole after " + refused.call, Scenes.whole(asked), Scenes.whole(spared));
    checks.due("the run after " + refused.call, story(asked), story(spared));
  }

  /**
   * Goes through all that an object holds: states in mind, wakers, refusals, delays, the watch's limit.
   * The whole is asked for a few times only: an object is good for 512 calls, its questions among them.
   */
  private static String story(DozingDevices x) {
    StringBuilder told = new StringBuilder();
    for (int i = 0; i < 3; i++) tell(told, x.tick(1));
    told.append(Scenes.whole(x));
    for (int d = 0; d < 3; d++) tell(told, x.signal(d));
    tell(told, x.tick(12));
    for (int d = 2; d >= 0; d--) tell(told, x.signal(d));
    for (int i = 0; i < 12; i++) tell(told, x.tick(1));
    told.append(Scenes.whole(x));
    tell(told, x.sleep());
    tell(told, x.tick(12));
    for (int d = 0; d < 3; d++) tell(told, x.signal(d));
    tell(told, x.tick(12));
    told.append(Scenes.whole(x));
    tell(told, x.device(0, 1, 1, 0));
    for (int i = 0; i < 60; i++) tell(told, x.tick(1));
    told.append(Scenes.whole(x));
    for (int d = 0; d < 4; d++) tell(told, x.release(d));
    tell(told, x.tick(200));
    return told.append(Scenes.whole(x)).toString();
  }

  private static void tell(StringBuilder told, int answer) {
    told.append(answer).append(' ');
  }

  private static DozingDevices full() {
    DozingDevices x = new DozingDevices();
    for (int d = 0; d < 12; d++) x.device(0, 1 + d, 20 - d, d % 3);
    x.waker(0, true);
    x.tick(1);
    return x;
  }

  private static void fullChangesNothing() {
    checks.about("refused with 12 devices");
    DozingDevices spared = full();
    DozingDevices asked = full();
    checks.due("device(0, ..)", asked.device(0, 1, 1, 0), FULL);
    checks.due("device(4095, ..)", asked.device(4095, 20, 20, 50), FULL);
    checks.due("device(4096, ..)", asked.device(4096, 1, 1, 0), BAD);
    checks.due("release(0)", asked.release(0), NONE);
    checks.due("whole", Scenes.whole(asked), Scenes.whole(spared));
    checks.due("the run after", story(asked), story(spared));
  }

  private static void unheardSignalsChangeNothing() {
    for (int phase = RUNNING; phase <= BACKING; phase++) {
      checks.about("signals that answer 0 in the phase " + phase);
      DozingDevices spared = Scenes.inPhase(phase);
      DozingDevices asked = Scenes.inPhase(phase);
      checks.due("signal(1)", asked.signal(1), 0);
      checks.due("signal(2)", asked.signal(2), 0);
      if (phase != 1 && phase != 2) checks.due("signal(0)", asked.signal(0), 0);
      checks.due("whole", Scenes.whole(asked), Scenes.whole(spared));
      checks.due("the run after", story(asked), story(spared));
    }
  }

  private static void askingChangesNothing() {
    for (int phase = RUNNING; phase <= BACKING; phase++) {
      checks.about("asking in the phase " + phase);
      DozingDevices spared = Scenes.inPhase(phase);
      DozingDevices asked = Scenes.inPhase(phase);
      for (int d = -2; d <= 13; d++) {
        asked.state(d);
        asked.uses(d);
        asked.idle(d);
        asked.refusals(d);
        asked.figure(d);
      }
      String first = Scenes.whole(asked);
      checks.due("whole, asked twice", Scenes.whole(asked), first);
      checks.due("tick(0)", asked.tick(0), 0);
      checks.due("the run after", story(asked), story(spared));
    }
  }
}
