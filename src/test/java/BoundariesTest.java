/**
 * One method for each sentence of the document that names a boundary case; the text given to about()
 * names the sentence, in its words or near them. What a refused call leaves untouched stands in RefusedCallsTest.
 */
public final class BoundariesTest {
  private static final int NONE = DozingDevices.NONE;
  private static final int BAD = DozingDevices.BAD;
  private static final int BUSY = DozingDevices.BUSY;
  private static final int FULL = DozingDevices.FULL;
  private static final int OFF = 0;
  private static final int DOZING = 1;
  private static final int ON = 2;
  private static final int RUNNING = 0;
  private static final int SINKING = 1;
  private static final int ASLEEP = 2;
  private static final int RISING = 3;
  private static final int BACKING = 4;
  private static final int LEAST = Integer.MIN_VALUE;
  private static final int MOST = Integer.MAX_VALUE;

  private static final Checks checks = new Checks();

  public static void main(String[] args) {
    terms();
    goingToSleep();
    comingBack();
    aTick();
    promises1To4();
    promises5To10();
    promises11To20();
    checks.end();
  }

  private static void about(String sentence) {
    checks.about(sentence);
  }

  private static void due(String call, Object got, Object want) {
    checks.due(call, got, want);
  }

  private static String states(DozingDevices x) {
    return Scenes.states(x);
  }

  private static String idles(DozingDevices x) {
    return Scenes.idles(x);
  }

  /** Devices without parents that go down and up in one tick, each with this delay. */
  private static DozingDevices row(int count, int delay) {
    DozingDevices x = new DozingDevices();
    for (int d = 0; d < count; d++) x.device(0, 1, 1, delay);
    return x;
  }

  /** Each device is the parent of the next one. */
  private static DozingDevices chain(int count, int delay) {
    DozingDevices x = new DozingDevices();
    for (int d = 0; d < count; d++) x.device(d == 0 ? 0 : 1 << (d - 1), 1, 1, delay);
    return x;
  }

  // ---- Terms ----

  private static void terms() {
    lastOf512Calls();
    numberedAsAdded();
    atMostTwelve();
    parentsHaveLowerNumbers();
    depthByTheGreatest();
    equalDepthsByNumber();
    lesserDepthBeforeLowerNumber();
    atFirst();
  }

  private static void lastOf512Calls() {
    about("used for at most 512 calls after it has been made");
    DozingDevices x = new DozingDevices();
    x.device(0, 1, 1, 0);
    for (int call = 2; call <= 511; call++) x.tick(200);
    due("the 512th call, figure(0)", x.figure(0), 510 * 200);
    DozingDevices y = row(1, 0);
    for (int call = 2; call <= 511; call++) y.use(0);
    due("the 512th call, uses(0)", y.uses(0), 510);
  }

  private static void numberedAsAdded() {
    about("DEVICES are numbered 0, 1, .. as they are added");
    DozingDevices x = new DozingDevices();
    due("the first", x.device(0, 1, 1, 0), 0);
    due("a refused one takes no number", x.device(2, 1, 1, 0), BAD);
    due("the second", x.device(0, 1, 1, 0), 1);
    due("the third, under both", x.device(3, 1, 1, 0), 2);
  }

  private static void atMostTwelve() {
    about("at most 12");
    DozingDevices x = row(11, 0);
    due("state(11) with 11 devices", x.state(11), BAD);
    due("the 12th", x.device(0, 1, 1, 0), 11);
    due("state(11)", x.state(11), ON);
    due("the 13th", x.device(0, 1, 1, 0), FULL);
    due("state(12)", x.state(12), BAD);
  }

  private static void parentsHaveLowerNumbers() {
    about("PARENTS (devices with lower numbers)");
    for (int d = 0; d < 12; d++) {
      DozingDevices x = row(d, 0);
      due("device " + d + " under itself", x.device(1 << d, 1, 1, 0), BAD);
      due("device " + d + " under all lower ones", x.device((1 << d) - 1, 1, 1, 0), d);
    }
  }

  private static void depthByTheGreatest() {
    about("DEPTH is 0 without parents, else 1 more than the greatest depth of a parent");
    DozingDevices x = chain(3, 0);
    x.device(5, 1, 1, 0); // 3: parents of depth 0 and 2
    x.device(4, 1, 1, 0); // 4: depth 3 too
    x.device(2, 1, 1, 0); // 5: depth 2
    x.device(0, 1, 1, 0); // 6: depth 0
    dueAgainstOrder(x, 4, 3, 5, 2, 1, 6, 0);
  }

  private static void equalDepthsByNumber() {
    about("with equal depths by the lower number");
    DozingDevices x = row(12, 0);
    dueAgainstOrder(x, 11, 10, 9, 8, 7, 6, 5, 4, 3, 2, 1, 0);
  }

  private static void lesserDepthBeforeLowerNumber() {
    about("the ORDER of the devices is by the lesser depth");
    DozingDevices x = new DozingDevices();
    x.device(0, 1, 1, 0);
    x.device(1, 1, 1, 0);
    for (int d = 2; d < 12; d++) x.device(0, 1, 1, 0);
    dueAgainstOrder(x, 1, 11, 10, 9, 8, 7, 6, 5, 4, 3, 2, 0);
  }

  private static void dueAgainstOrder(DozingDevices x, int... devices) {
    x.waker(0, true);
    x.sleep();
    for (int d : devices) {
      due("due() while SINKING", x.due(), d);
      x.tick(1);
    }
    due("phase()", x.phase(), ASLEEP);
    x.signal(0);
    for (int i = devices.length - 1; i >= 0; i--) {
      due("due() while RISING", x.due(), devices[i]);
      x.tick(1);
    }
    due("phase()", x.phase(), RUNNING);
  }

  private static void atFirst() {
    about("At first it is RUNNING, the WATCH is off, and no sleep was given up");
    DozingDevices x = new DozingDevices();
    due("phase()", x.phase(), RUNNING);
    x.tick(200);
    due("figure(1)", x.figure(1), 0);
    due("figure(2)", x.figure(2), 0);
    due("figure(4)", x.figure(4), 0);
    due("figure(5)", x.figure(5), 0);
    due("named()", x.named(), NONE);
  }

  // ---- Going to sleep ----

  private static void goingToSleep() {
    mindIsOfTheLatestSleep();
    dozingLastGoesAtOnce();
    dozingBetweenGoesWithTheOneBefore();
    dozingFirstEndsTheSinking();
    downOfOneAndTwenty();
    refusesAtTheEndOfDown();
    refusalsRunOut();
    lastOneMayRefuse();
    refusalsSetBeforeTheLastTick();
  }

  private static void mindIsOfTheLatestSleep() {
    about("Every device keeps in mind whether it is ON or DOZING now");
    DozingDevices x = row(2, 1);
    x.waker(0, true);
    x.use(0);
    x.tick(1);
    x.sleep();
    x.tick(1);
    x.signal(0);
    x.tick(1);
    due("as it was", states(x), "21");
    x.release(0);
    x.use(1);
    x.tick(1);
    due("turned round", states(x), "12");
    x.sleep();
    x.tick(1);
    due("phase()", x.phase(), ASLEEP);
    x.signal(0);
    due("the first at once", states(x), "10");
    x.tick(1);
    due("as it was at the second sleep", states(x), "12");
  }

  private static void dozingLastGoesAtOnce() {
    about("one that is DOZING goes OFF at once, and the next one follows");
    DozingDevices x = row(4, 1);
    x.use(0);
    x.tick(1);
    due("sleep()", x.sleep(), SINKING);
    due("three at once, within the call", states(x), "2000");
    due("due()", x.due(), 0);
    due("left()", x.left(), 1);
    due("tick(1) counts none of them", x.tick(1), 1);
  }

  private static void dozingBetweenGoesWithTheOneBefore() {
    about("what is said to happen at once happens within the tick that brings it about");
    DozingDevices x = row(5, 1);
    x.use(0);
    x.use(4);
    x.tick(1);
    x.sleep();
    due("behind the due one they wait", states(x), "21112");
    due("tick(1)", x.tick(1), 4);
    due("then they go with it", states(x), "20000");
    due("due()", x.due(), 0);
  }

  private static void dozingFirstEndsTheSinking() {
    about("When all are OFF the system is ASLEEP (also the end of a phase at once)");
    DozingDevices x = row(3, 1);
    x.use(2);
    x.tick(1);
    x.sleep();
    due("phase()", x.phase(), SINKING);
    due("tick(1)", x.tick(1), 3);
    due("phase()", x.phase(), ASLEEP);
    due("figure(3)", x.figure(3), 1);
    due("due()", x.due(), NONE);
    due("left()", x.left(), 0);
  }

  private static void downOfOneAndTwenty() {
    about("after as many ticks as its DOWN says");
    for (int down = 1; down <= 20; down++) {
      DozingDevices x = new DozingDevices();
      x.device(0, down, 21 - down, 0);
      x.sleep();
      due("left()", x.left(), down);
      due("tick(" + (down - 1) + ")", x.tick(down - 1), 0);
      due("state(0)", x.state(0), ON);
      due("left()", x.left(), 1);
      due("tick(1)", x.tick(1), 1);
      due("state(0)", x.state(0), OFF);
    }
  }

  private static void refusesAtTheEndOfDown() {
    about("it either refuses (.. they become one less, and it stays ON)");
    DozingDevices x = new DozingDevices();
    x.device(0, 3, 5, 0);
    x.refuse(0, 1);
    x.sleep();
    due("tick(2)", x.tick(2), 0);
    due("phase(), not yet", x.phase(), SINKING);
    due("refusals(0), not yet", x.refusals(0), 1);
    due("tick(1)", x.tick(1), 0);
    due("refusals(0)", x.refusals(0), 0);
    due("state(0)", x.state(0), ON);
    due("named()", x.named(), 0);
    due("figure(4)", x.figure(4), 1);
    due("figure(5)", x.figure(5), 1);
    due("phase(), none being OFF", x.phase(), RUNNING);
  }

  private static void refusalsRunOut() {
    about("if it has refusals to come (9 of them, then none)");
    DozingDevices x = row(1, 0);
    x.refuse(0, 9);
    for (int left = 8; left >= 0; left--) {
      x.sleep();
      x.tick(1);
      due("refusals(0)", x.refusals(0), left);
      due("phase()", x.phase(), RUNNING);
    }
    x.sleep();
    due("the tenth sleep", x.tick(1), 1);
    due("phase()", x.phase(), ASLEEP);
    due("refusals(0), never below 0", x.refusals(0), 0);
    due("figure(4)", x.figure(4), 9);
  }

  private static void lastOneMayRefuse() {
    about("When one refuses, the sleep is GIVEN UP, for the reason 1, and that device is NAMED");
    DozingDevices x = row(3, 0);
    x.refuse(0, 1);
    x.refuse(2, 1);
    x.sleep();
    x.tick(1);
    due("the first to be due is the one that refuses", x.named(), 2);
    due("refusals(0), not asked", x.refusals(0), 1);
    x.sleep();
    due("tick(2)", x.tick(2), 2);
    due("phase()", x.phase(), SINKING);
    due("tick(1)", x.tick(1), 0);
    due("named()", x.named(), 0);
    due("phase()", x.phase(), BACKING);
    due("figure(3)", x.figure(3), 0);
    due("figure(4)", x.figure(4), 2);
  }

  private static void refusalsSetBeforeTheLastTick() {
    about("it refuses if it has refusals to come (as they are at the end of its DOWN)");
    DozingDevices x = new DozingDevices();
    x.device(0, 2, 1, 0);
    x.sleep();
    x.tick(1);
    x.refuse(0, 1);
    due("tick(1)", x.tick(1), 0);
    due("phase()", x.phase(), RUNNING);
    x.refuse(0, 1);
    x.sleep();
    x.tick(1);
    x.refuse(0, 0);
    due("tick(1)", x.tick(1), 1);
    due("phase()", x.phase(), ASLEEP);
  }

  // ---- Coming back ----

  private static void comingBack() {
    onlyThoseThatAreOff();
    dozingOnesComeAtOnce();
    dozingLastEndsThePhase();
    upOfOneAndTwenty();
    dueOneStaysOn();
    noneOffIsRunningAtOnce();
    allDozingIsRunningAtOnce();
    refusalIsNotAskedInRising();
  }

  private static void onlyThoseThatAreOff() {
    about("The devices that are OFF are gone through in the order");
    DozingDevices x = row(4, 1);
    x.use(0);
    x.use(2);
    x.use(3);
    x.tick(1);
    due("states", states(x), "2122");
    x.refuse(2, 1);
    x.sleep();
    x.tick(2);
    due("phase()", x.phase(), BACKING);
    due("a dozing one that was not reached dozes on", states(x), "2120");
    due("due()", x.due(), 3);
    due("tick(1)", x.tick(1), 1);
    due("phase()", x.phase(), RUNNING);
    due("states", states(x), "2122");
  }

  private static void dozingOnesComeAtOnce() {
    about("one that was DOZING does so at once, and the next one follows");
    DozingDevices x = row(5, 1);
    x.use(2);
    x.use(4);
    x.waker(3, true);
    x.tick(1);
    x.sleep();
    x.tick(2);
    due("phase()", x.phase(), ASLEEP);
    due("signal(3)", x.signal(3), 1);
    due("two within the call", states(x), "11000");
    due("due()", x.due(), 2);
    due("tick(1), the third and the fourth", x.tick(1), 2);
    due("states", states(x), "11210");
    due("tick(1)", x.tick(1), 1);
    due("states", states(x), "11212");
  }

  private static void dozingLastEndsThePhase() {
    about("When none is OFF any more the system is RUNNING (also the end of a phase at once)");
    DozingDevices x = row(3, 1);
    x.use(0);
    x.waker(0, true);
    x.tick(1);
    x.sleep();
    x.tick(1);
    x.signal(0);
    due("states", states(x), "000");
    due("tick(1)", x.tick(1), 3);
    due("phase()", x.phase(), RUNNING);
    due("states", states(x), "211");
    due("due()", x.due(), NONE);
    due("left()", x.left(), 0);
  }

  private static void upOfOneAndTwenty() {
    about("after as many ticks as its UP says it is ON");
    for (int up = 1; up <= 20; up++) {
      DozingDevices x = new DozingDevices();
      x.device(0, 21 - up, up, 0);
      x.waker(0, true);
      x.sleep();
      x.tick(21 - up);
      x.signal(0);
      due("left()", x.left(), up);
      due("tick(" + (up - 1) + ")", x.tick(up - 1), 0);
      due("state(0)", x.state(0), OFF);
      due("left()", x.left(), 1);
      due("tick(1)", x.tick(1), 1);
      due("state(0)", x.state(0), ON);
      due("phase()", x.phase(), RUNNING);
    }
  }

  private static void dueOneStaysOn() {
    about("the device that was DUE then is so no more and stays ON");
    DozingDevices x = new DozingDevices();
    x.device(0, 20, 1, 0);
    x.device(0, 1, 7, 0);
    x.waker(0, true);
    x.sleep();
    x.tick(20);
    due("due()", x.due(), 0);
    due("left()", x.left(), 1);
    x.signal(0);
    due("phase()", x.phase(), BACKING);
    due("due()", x.due(), 1);
    due("left()", x.left(), 7);
    due("state(0)", x.state(0), ON);
    due("tick(6)", x.tick(6), 0);
    due("tick(1)", x.tick(1), 1);
    due("states", states(x), "22");
  }

  private static void noneOffIsRunningAtOnce() {
    about("A sleep that is given up is followed by coming back at once (none being OFF: RUNNING at once)");
    DozingDevices x = row(2, 0);
    x.waker(0, true);
    x.sleep();
    due("signal(0)", x.signal(0), 1);
    due("phase()", x.phase(), RUNNING);
    due("due()", x.due(), NONE);
    due("left()", x.left(), 0);
    due("use(0), not BUSY", x.use(0), 0);
  }

  private static void allDozingIsRunningAtOnce() {
    about("one that was DOZING does so at once (all of those that are OFF: RUNNING at once)");
    DozingDevices x = row(3, 1);
    x.use(0);
    x.waker(2, true);
    x.tick(1);
    x.sleep();
    due("states", states(x), "200");
    due("signal(2)", x.signal(2), 1);
    due("phase()", x.phase(), RUNNING);
    due("states", states(x), "211");
    due("named()", x.named(), 2);
    x.refuse(0, 1);
    x.sleep();
    due("the same by a refusal", x.tick(1), 2);
    due("phase()", x.phase(), RUNNING);
    due("states", states(x), "211");
  }

  private static void refusalIsNotAskedInRising() {
    about("COMING BACK knows no refusals");
    DozingDevices x = row(2, 0);
    x.waker(0, true);
    x.sleep();
    x.tick(2);
    x.refuse(0, 9);
    x.refuse(1, 9);
    x.signal(0);
    due("tick(2)", x.tick(2), 2);
    due("refusals(0)", x.refusals(0), 9);
    due("refusals(1)", x.refusals(1), 9);
    due("figure(4)", x.figure(4), 0);
  }

  // ---- A tick ----

  private static void aTick() {
    timeGrowsInEveryPhase();
    watchStandsStillAsleep();
    watchGoesOnTheWay();
    limitItselfIsNoReset();
    resetComesFirst();
    resetEndsEverything();
    resetLeavesTheRest();
    idleOnlyWhenOnUnusedChildless();
    childrenAsBeforeThisTick();
    onlyChildrenCount();
    delayZeroNeverDozes();
    delayOneAndFifty();
    moreIdleTicksThanDelay();
    noIdleTickAtTheEndOfAPhase();
    asleepNothingHappens();
  }

  private static void timeGrowsInEveryPhase() {
    about("the time grows by 1 (in every phase, and in a reset)");
    for (int phase = RUNNING; phase <= BACKING; phase++) {
      DozingDevices x = Scenes.inPhase(phase);
      int before = x.figure(0);
      due("phase()", x.phase(), phase);
      x.tick(1);
      due("figure(0)", x.figure(0), before + 1);
    }
    DozingDevices y = row(1, 0);
    y.watch(1);
    y.tick(2);
    due("figure(2)", y.figure(2), 1);
    due("figure(0)", y.figure(0), 2);
  }

  private static void watchStandsStillAsleep() {
    about("If the watch is on and the system is not ASLEEP, the ticks since the kick grow by 1");
    DozingDevices x = row(1, 0);
    x.waker(0, true);
    x.watch(3);
    x.tick(1);
    x.sleep();
    x.tick(1);
    due("the tick in which it falls asleep counts", x.figure(1), 2);
    x.tick(200);
    due("no tick while ASLEEP does", x.figure(1), 2);
    x.signal(0);
    x.tick(1);
    due("the first one after", x.figure(1), 3);
    x.tick(1);
    due("figure(2)", x.figure(2), 1);
  }

  private static void watchGoesOnTheWay() {
    about("not ASLEEP: RUNNING, SINKING, RISING and BACKING");
    for (int phase = RUNNING; phase <= BACKING; phase++) {
      DozingDevices x = Scenes.inPhase(phase);
      int before = x.figure(1);
      x.tick(1);
      due("figure(1) in the phase " + phase, x.figure(1), phase == ASLEEP ? before : before + 1);
      x.watch(0);
      x.tick(1);
      due("figure(1), the watch being off", x.figure(1), 0);
    }
  }

  private static void limitItselfIsNoReset() {
    about("if they are more than the watch's limit then, there is a RESET");
    for (int limit = 1; limit <= 100; limit++) {
      DozingDevices x = row(1, 0);
      x.watch(limit);
      x.tick(limit);
      due("figure(2) after " + limit, x.figure(2), 0);
      due("figure(1)", x.figure(1), limit);
      x.tick(1);
      due("figure(2) after one more", x.figure(2), 1);
      due("figure(1)", x.figure(1), 0);
    }
  }

  private static void resetComesFirst() {
    about("and nothing more happens in this tick");
    DozingDevices x = row(1, 1);
    x.use(0);
    x.watch(1);
    x.tick(1);
    x.release(0);
    due("tick(1), RUNNING: no idle tick, no dozing", x.tick(1), 0);
    due("idle(0)", x.idle(0), 0);
    DozingDevices y = row(1, 0);
    y.watch(1);
    y.tick(1);
    y.sleep();
    due("tick(1), SINKING: the due one does not go OFF", y.tick(1), 0);
    due("state(0)", y.state(0), ON);
    due("figure(3)", y.figure(3), 0);
    y.refuse(0, 1);
    y.tick(1);
    y.sleep();
    y.tick(1);
    due("nor does it refuse", y.refusals(0), 1);
    due("figure(4)", y.figure(4), 0);
    due("figure(2)", y.figure(2), 2);
  }

  private static void resetEndsEverything() {
    about("all devices are ON, no uses, no idle ticks, RUNNING, none named, no reason, kick 0");
    for (int phase = RUNNING; phase <= BACKING; phase++) {
      if (phase == ASLEEP) continue;
      DozingDevices x = Scenes.inPhase(phase);
      due("named() before", x.named() != NONE, true);
      x.watch(1);
      x.tick(1);
      int notOn = states(x).replace("2", "").length();
      int given = x.figure(4);
      int asleep = x.figure(3);
      due("tick(1), once for each that was not ON", x.tick(1), notOn);
      due("states", states(x), "222");
      due("idle ticks", idles(x), "0 0 0");
      due("uses", "" + x.uses(0) + x.uses(1) + x.uses(2), "000");
      due("phase()", x.phase(), RUNNING);
      due("named()", x.named(), NONE);
      due("figure(5)", x.figure(5), 0);
      due("figure(1)", x.figure(1), 0);
      due("due()", x.due(), NONE);
      due("left()", x.left(), 0);
      due("figure(4) is of all times", x.figure(4), given);
      due("figure(3) is of all times", x.figure(3), asleep);
    }
  }

  private static void resetLeavesTheRest() {
    about("RESET (what is not named in it stays: refusals, wakers, the watch)");
    DozingDevices x = row(2, 0);
    x.refuse(1, 7);
    x.waker(1, true);
    x.watch(2);
    x.tick(3);
    due("figure(2)", x.figure(2), 1);
    due("refusals(1)", x.refusals(1), 7);
    due("figure(6)", x.figure(6), 2);
    x.sleep();
    due("signal(0)", x.signal(0), 0);
    due("signal(1)", x.signal(1), 1);
    x.tick(2);
    due("figure(1)", x.figure(1), 2);
    x.tick(1);
    due("figure(2), with the same limit", x.figure(2), 2);
  }

  private static void idleOnlyWhenOnUnusedChildless() {
    about("each device that is ON, has no uses and no child that is ON has one idle tick more, "
        + "every other one has none");
    DozingDevices x = new DozingDevices();
    x.device(0, 1, 1, 0); // 0 has a child that is ON
    x.device(1, 1, 1, 0); // 1 is used
    x.device(0, 1, 1, 0); // 2 has a child that dozes
    x.device(4, 1, 1, 1); // 3 dozes
    x.device(0, 1, 1, 0); // 4 has neither
    x.tick(1);
    due("idle ticks", idles(x), "0 1 0 1 1");
    due("states", states(x), "22212");
    x.use(1);
    x.tick(1);
    due("idle ticks", idles(x), "0 0 1 0 2");
    x.release(1);
    due("a release gives none", idles(x), "0 0 1 0 2");
    x.device(16, 1, 1, 0);
    x.tick(1);
    due("what was counted ends with a new child", idles(x), "0 1 2 0 0 1");
  }

  private static void childrenAsBeforeThisTick() {
    about("all as they were before this tick");
    DozingDevices x = chain(12, 1);
    for (int tick = 1; tick <= 12; tick++) {
      due("tick " + tick + ", one device dozes", x.tick(1), 1);
      due("state of the one that dozes", x.state(12 - tick), DOZING);
      if (tick < 12) due("its parent has no idle tick yet", x.idle(11 - tick), 0);
    }
    due("tick 13", x.tick(1), 0);
  }

  private static void onlyChildrenCount() {
    about("no child that is ON (one of several is enough)");
    DozingDevices x = new DozingDevices();
    x.device(0, 1, 1, 2);
    x.device(1, 1, 1, 1);
    x.device(1, 1, 1, 3);
    due("tick(1), one child dozes", x.tick(1), 1);
    due("tick(2), the other one", x.tick(2), 1);
    due("states", states(x), "211");
    due("idle(0)", x.idle(0), 0);
    due("tick(1)", x.tick(1), 0);
    due("tick(1)", x.tick(1), 1);
    due("states", states(x), "111");
  }

  private static void delayZeroNeverDozes() {
    about("have a delay other than 0");
    DozingDevices x = row(1, 0);
    for (int i = 0; i < 5; i++) due("tick(200)", x.tick(200), 0);
    due("idle(0)", x.idle(0), 1000);
    due("state(0)", x.state(0), ON);
  }

  private static void delayOneAndFifty() {
    about("at least so many idle ticks as it says go DOZING");
    for (int delay = 1; delay <= 50; delay++) {
      DozingDevices x = row(1, delay);
      due("tick(" + (delay - 1) + ")", x.tick(delay - 1), 0);
      due("state(0)", x.state(0), ON);
      due("tick(1)", x.tick(1), 1);
      due("state(0)", x.state(0), DOZING);
      due("idle(0) is kept in this tick", x.idle(0), delay);
      due("tick(1)", x.tick(1), 0);
      due("idle(0) is none in the next", x.idle(0), 0);
    }
  }

  private static void moreIdleTicksThanDelay() {
    about("the idle ticks of one that comes back dozing stay until the next tick while RUNNING");
    DozingDevices x = row(2, 5);
    x.waker(0, true);
    x.tick(5);
    due("idle ticks", idles(x), "5 5");
    due("sleep()", x.sleep(), ASLEEP);
    x.tick(9);
    due("idle ticks", idles(x), "5 5");
    x.signal(0);
    due("phase()", x.phase(), RUNNING);
    due("idle ticks", idles(x), "5 5");
    due("tick(1)", x.tick(1), 0);
    due("idle ticks", idles(x), "0 0");
    due("use(0)", x.use(0), 1);
    x.release(0);
    due("tick(4)", x.tick(4), 0);
    due("tick(1), counted from the start again", x.tick(1), 1);
  }

  private static void noIdleTickAtTheEndOfAPhase() {
    about("If the phase is RUNNING: .. If it is SINKING, RISING or BACKING: (one of them in a tick)");
    DozingDevices x = row(2, 1);
    x.waker(0, true);
    x.sleep();
    x.tick(2);
    x.signal(0);
    due("tick(2)", x.tick(2), 2);
    due("phase()", x.phase(), RUNNING);
    due("none dozes in the tick that ends RISING", states(x), "22");
    due("idle ticks", idles(x), "0 0");
    x.refuse(1, 1);
    x.sleep();
    due("tick(1)", x.tick(1), 0);
    due("phase()", x.phase(), RUNNING);
    due("none dozes in the tick of a refusal", states(x), "22");
    due("tick(1)", x.tick(1), 2);
  }

  private static void asleepNothingHappens() {
    about("ASLEEP: nothing but the time");
    DozingDevices x = Scenes.inPhase(ASLEEP);
    String before = Scenes.whole(x).replace("time " + x.figure(0) + ",", "time t,");
    due("tick(200)", x.tick(200), 0);
    due("whole", Scenes.whole(x).replace("time " + x.figure(0) + ",", "time t,"), before);
  }

  // ---- Promises 1 to 4 ----

  private static void promises1To4() {
    newObject();
    parentsBelowZero();
    parentsThatThereAreNot();
    downAndUpOutside();
    delayOutside();
    deviceBadBusyFull();
    newDeviceIsFresh();
    newDeviceRousesAncestors();
    useCountsThoseNotOn();
    useBadBusy();
    releaseToNone();
    releaseBadBusyNone();
  }

  private static void newObject() {
    about("promise 1: No devices; the time is 0");
    DozingDevices x = new DozingDevices();
    due("figure(6)", x.figure(6), 0);
    due("figure(0)", x.figure(0), 0);
    due("tick(200) without devices", x.tick(200), 0);
    due("figure(0)", x.figure(0), 200);
    due("use(0)", x.use(0), BAD);
    due("release(0)", x.release(0), BAD);
    due("signal(0)", x.signal(0), BAD);
    x.watch(1);
    due("tick(2), a reset without devices", x.tick(2), 0);
    due("figure(2)", x.figure(2), 1);
    due("another object has its own time", new DozingDevices().figure(0), 0);
  }

  private static void parentsBelowZero() {
    about("promise 2: BAD when parents is less than 0");
    DozingDevices x = row(12, 0);
    for (int parents : new int[] {-1, -2, -4096, LEAST, LEAST + 1}) {
      due("device(" + parents + ", ..)", row(3, 0).device(parents, 1, 1, 0), BAD);
      due("device(" + parents + ", ..), full", x.device(parents, 1, 1, 0), BAD);
    }
    due("device(0, ..)", row(3, 0).device(0, 1, 1, 0), 3);
  }

  private static void parentsThatThereAreNot() {
    about("promise 2: BAD when parents names a device that there is not");
    for (int count = 0; count <= 12; count++) {
      for (int p = count; p <= 30; p++) {
        due("device(1 << " + p + ", ..)", row(count, 0).device(1 << p, 1, 1, 0), BAD);
      }
      due("among devices that there are", row(count, 0).device((2 << count) - 1, 1, 1, 0), BAD);
      due("all bits", row(count, 0).device(MOST, 1, 1, 0), BAD);
      due("all that there are", row(count, 0).device((1 << count) - 1, 1, 1, 0), count == 12 ? FULL : count);
    }
  }

  private static void downAndUpOutside() {
    about("promise 2: BAD when down or up is not 1 .. 20");
    for (int wrong : new int[] {0, -1, 21, 22, LEAST, MOST}) {
      due("down " + wrong, row(1, 0).device(0, wrong, 1, 0), BAD);
      due("up " + wrong, row(1, 0).device(0, 1, wrong, 0), BAD);
    }
    for (int right : new int[] {1, 2, 19, 20}) {
      due("down " + right, row(1, 0).device(0, right, 1, 0), 1);
      due("up " + right, row(1, 0).device(0, 1, right, 0), 1);
    }
  }

  private static void delayOutside() {
    about("promise 2: BAD when the delay is not 0 .. 50");
    for (int wrong : new int[] {-1, 51, LEAST, MOST}) {
      due("delay " + wrong, row(1, 0).device(0, 1, 1, wrong), BAD);
    }
    for (int right : new int[] {0, 1, 49, 50}) {
      due("delay " + right, row(1, 0).device(0, 1, 1, right), 1);
    }
  }

  private static void deviceBadBusyFull() {
    about("promise 2: BAD ..; BUSY; FULL (the one named first is the answer)");
    DozingDevices x = row(12, 0);
    due("BAD before FULL", x.device(1 << 12, 1, 1, 0), BAD);
    due("FULL", x.device(0, 1, 1, 0), FULL);
    x.sleep();
    due("BAD before BUSY and FULL", x.device(0, 0, 1, 0), BAD);
    due("BAD before BUSY and FULL", x.device(0, 1, 0, 0), BAD);
    due("BAD before BUSY and FULL", x.device(0, 1, 1, 51), BAD);
    due("BUSY before FULL", x.device(0, 1, 1, 0), BUSY);
    for (int phase = SINKING; phase <= BACKING; phase++) {
      due("BUSY in the phase " + phase, Scenes.inPhase(phase).device(0, 1, 1, 0), BUSY);
      due("BAD in the phase " + phase, Scenes.inPhase(phase).device(8, 1, 1, 0), BAD);
    }
  }

  private static void newDeviceIsFresh() {
    about("promise 2: It is ON without uses and idle ticks, has no refusals to come and is no waker");
    DozingDevices x = new DozingDevices();
    for (int d = 0; d < 12; d++) {
      x.device(0, 1, 1, 0);
      due("state", x.state(d), ON);
      due("uses", x.uses(d), 0);
      due("idle", x.idle(d), 0);
      due("refusals", x.refusals(d), 0);
      x.sleep();
      due("signal, no waker", x.signal(d), 0);
      x.waker(d, true);
      due("signal, a waker", x.signal(d), 1);
      x.waker(d, false);
      x.use(d);
      x.refuse(d, 9);
      x.tick(1);
    }
  }

  private static void newDeviceRousesAncestors() {
    about("promise 2: all its ancestors become ON and have no idle ticks then");
    DozingDevices x = chain(11, 1);
    x.tick(11);
    due("states", states(x), "11111111111");
    x.device(1 << 10, 1, 1, 0);
    due("the parents of parents too", states(x), "222222222222");
    DozingDevices y = row(11, 1);
    y.tick(1);
    y.device(0, 1, 1, 0);
    due("without parents none", states(y), "111111111112");
    due("idle ticks of the others stay", idles(y), "1 1 1 1 1 1 1 1 1 1 1 0");
    DozingDevices z = row(11, 1);
    z.tick(1);
    z.device(1 | 1 << 10, 1, 1, 0);
    due("the first and the last bit", states(z), "211111111122");
    due("idle ticks", idles(z), "0 1 1 1 1 1 1 1 1 1 0 0");
  }

  private static void useCountsThoseNotOn() {
    about("promise 3: Answers how many of them were not ON (perhaps 0)");
    DozingDevices x = chain(12, 1);
    due("all being ON", x.use(11), 0);
    x.release(11);
    x.tick(12);
    due("all 12 dozing", x.use(11), 12);
    due("again", x.use(11), 0);
    due("uses are of the one alone", x.uses(10), 0);
    x.release(11);
    x.release(11);
    x.tick(3);
    due("three dozing", x.use(11), 3);
    DozingDevices y = new DozingDevices();
    y.device(0, 1, 1, 1);
    y.device(1, 1, 1, 1);
    y.device(1, 1, 1, 1);
    y.device(6, 1, 1, 1);
    y.tick(3);
    due("states", states(y), "1111");
    due("an ancestor by two ways counts once", y.use(3), 4);
  }

  private static void useBadBusy() {
    about("promise 3: BAD; BUSY");
    DozingDevices x = row(12, 0);
    for (int d : new int[] {-1, 12, 32, LEAST, MOST}) due("use(" + d + ")", x.use(d), BAD);
    due("use(11)", x.use(11), 0);
    for (int phase = SINKING; phase <= BACKING; phase++) {
      due("use(0) in the phase " + phase, Scenes.inPhase(phase).use(0), BUSY);
      due("use(3), BAD before BUSY", Scenes.inPhase(phase).use(3), BAD);
      due("use(-1), BAD before BUSY", Scenes.inPhase(phase).use(-1), BAD);
    }
  }

  private static void releaseToNone() {
    about("promise 4: answers how many are left; NONE when it has no uses");
    DozingDevices x = row(2, 1);
    due("release(0) of a new one", x.release(0), NONE);
    for (int i = 0; i < 100; i++) x.use(0);
    for (int left = 99; left >= 0; left--) due("release(0)", x.release(0), left);
    due("release(0)", x.release(0), NONE);
    due("uses(0), never below 0", x.uses(0), 0);
    x.use(0);
    due("the uses of another", x.release(1), NONE);
    due("uses(0)", x.uses(0), 1);
    x.watch(1);
    x.tick(2);
    due("after a reset", x.release(0), NONE);
  }

  private static void releaseBadBusyNone() {
    about("promise 4: BAD; BUSY; NONE (the one named first is the answer)");
    DozingDevices x = row(12, 0);
    for (int d : new int[] {-1, 12, 32, LEAST, MOST}) due("release(" + d + ")", x.release(d), BAD);
    due("release(11)", x.release(11), NONE);
    for (int phase = SINKING; phase <= BACKING; phase++) {
      due("release(0) in the phase " + phase, Scenes.inPhase(phase).release(0), BUSY);
      due("release(2), BUSY before NONE", Scenes.inPhase(phase).release(2), BUSY);
      due("release(3), BAD before BUSY", Scenes.inPhase(phase).release(3), BAD);
    }
  }

  // ---- Promises 5 to 10 ----

  private static void promises5To10() {
    wakerInAnyPhase();
    wakerWithoutDevice();
    refuseInAnyPhase();
    refuseOutside();
    signalInEachPhase();
    signalWithoutDevice();
    anOffOrDozingWakerSignals();
    sleepWithoutOneThatIsOn();
    sleepBusy();
    watchOutside();
    watchOffAndOn();
    kickOnOrOff();
  }

  private static void wakerInAnyPhase() {
    about("promise 5: from now on, or no more (in any phase)");
    for (int phase = RUNNING; phase <= BACKING; phase++) {
      DozingDevices x = Scenes.inPhase(phase);
      String before = Scenes.whole(x);
      due("waker(1, true)", x.waker(1, true), true);
      due("waker(0, false)", x.waker(0, false), true);
      due("nothing that can be asked", Scenes.whole(x), before);
      Scenes.intoAsleep(x);
      due("phase()", x.phase(), ASLEEP);
      due("signal(0), no more", x.signal(0), 0);
      due("waker(0, false) twice is fine", x.waker(0, false), true);
      due("signal(1), from now on", x.signal(1), 1);
    }
  }

  private static void wakerWithoutDevice() {
    about("promise 5: false when there is no such device");
    due("waker(0, true) without devices", new DozingDevices().waker(0, true), false);
    DozingDevices x = row(12, 0);
    for (int d : new int[] {-1, 12, 32, LEAST, MOST}) {
      due("waker(" + d + ", true)", x.waker(d, true), false);
      due("waker(" + d + ", false)", x.waker(d, false), false);
    }
    due("waker(11, true)", x.waker(11, true), true);
    due("waker(0, true)", x.waker(0, true), true);
  }

  private static void refuseInAnyPhase() {
    about("promises 5 and 6: in any phase, as with refuse()");
    for (int phase = RUNNING; phase <= BACKING; phase++) {
      DozingDevices x = Scenes.inPhase(phase);
      for (int n : new int[] {9, 1, 0, 5}) {
        due("refuse(2, " + n + ") in the phase " + phase, x.refuse(2, n), true);
        due("refusals(2), no sum", x.refusals(2), n);
      }
      due("phase()", x.phase(), phase);
    }
  }

  private static void refuseOutside() {
    about("promise 6: false when there is no such device or n is not 0 .. 9");
    due("refuse(0, 1) without devices", new DozingDevices().refuse(0, 1), false);
    DozingDevices x = row(12, 0);
    for (int d : new int[] {-1, 12, 32, LEAST, MOST}) due("refuse(" + d + ", 1)", x.refuse(d, 1), false);
    x.refuse(11, 4);
    for (int n : new int[] {-1, 10, LEAST, MOST}) {
      due("refuse(11, " + n + ")", x.refuse(11, n), false);
      due("refusals(11)", x.refusals(11), 4);
    }
    due("refuse(11, 9)", x.refuse(11, 9), true);
    due("refuse(11, 0)", x.refuse(11, 0), true);
    due("refusals(11)", x.refusals(11), 0);
  }

  private static void signalInEachPhase() {
    about("promise 7: Answers 1 in these two cases, else 0 (and nothing changes)");
    for (int phase = RUNNING; phase <= BACKING; phase++) {
      DozingDevices x = Scenes.inPhase(phase);
      String before = Scenes.whole(x);
      due("signal(2), no waker, in the phase " + phase, x.signal(2), 0);
      due("whole", Scenes.whole(x), before);
      int want = phase == ASLEEP || phase == SINKING ? 1 : 0;
      due("signal(0), a waker, in the phase " + phase, x.signal(0), want);
      if (want == 0) due("whole", Scenes.whole(x), before);
      due("signal(0) again", x.signal(0), 0);
    }
    DozingDevices asleep = Scenes.inPhase(ASLEEP);
    int given = asleep.figure(4);
    asleep.signal(0);
    due("phase()", asleep.phase(), RISING);
    due("no sleep is given up by RISING", asleep.figure(4), given);
    DozingDevices sinking = Scenes.inPhase(SINKING);
    given = sinking.figure(4);
    sinking.signal(0);
    due("one is by BACKING", sinking.figure(4), given + 1);
    due("figure(5)", sinking.figure(5), 2);
  }

  private static void signalWithoutDevice() {
    about("promise 7: BAD when there is no such device");
    DozingDevices none = new DozingDevices();
    due("signal(0)", none.signal(0), BAD);
    none.sleep();
    due("signal(0) while ASLEEP", none.signal(0), BAD);
    for (int phase = RUNNING; phase <= BACKING; phase++) {
      for (int d : new int[] {-1, 3, 12, 32, LEAST, MOST}) {
        due("signal(" + d + ") in the phase " + phase, Scenes.inPhase(phase).signal(d), BAD);
      }
    }
  }

  private static void anOffOrDozingWakerSignals() {
    about("promise 7: if it is a waker and the system is SINKING (it may be OFF, DOZING, or the due one)");
    for (int d = 1; d <= 3; d++) {
      DozingDevices x = row(4, 1);
      x.use(0);
      x.use(2);
      x.use(3);
      x.tick(1);
      x.waker(d, true);
      x.sleep();
      x.tick(1);
      due("1 DOZING, 2 due, 3 OFF", states(x) + x.due(), "21202");
      due("signal(" + d + ")", x.signal(d), 1);
      due("named()", x.named(), d);
      due("due()", x.due(), 3);
      x.tick(1);
      due("states", states(x), "2122");
      due("phase()", x.phase(), RUNNING);
    }
  }

  private static void sleepWithoutOneThatIsOn() {
    about("promise 8: answers the phase then (ASLEEP already, if no device is ON)");
    due("no device at all", new DozingDevices().sleep(), ASLEEP);
    DozingDevices x = row(12, 1);
    x.waker(11, true);
    x.tick(1);
    due("12 dozing", x.sleep(), ASLEEP);
    due("states", states(x), "000000000000");
    due("figure(3)", x.figure(3), 1);
    due("due()", x.due(), NONE);
    due("left()", x.left(), 0);
    due("signal(11)", x.signal(11), 1);
    due("RUNNING already", x.phase(), RUNNING);
    due("states", states(x), "111111111111");
    x.use(0);
    due("one ON, the first", x.sleep(), SINKING);
    DozingDevices y = row(12, 1);
    y.use(11);
    y.tick(1);
    due("one ON, the last", y.sleep(), SINKING);
    due("due()", y.due(), 11);
  }

  private static void sleepBusy() {
    about("promise 8: BUSY when it is not RUNNING");
    for (int phase = SINKING; phase <= BACKING; phase++) {
      DozingDevices x = Scenes.inPhase(phase);
      String before = Scenes.whole(x);
      due("sleep() in the phase " + phase, x.sleep(), BUSY);
      due("whole", Scenes.whole(x), before);
    }
    due("sleep() while RUNNING", Scenes.inPhase(RUNNING).sleep(), SINKING);
  }

  private static void watchOutside() {
    about("promise 9: False, refused, when the limit is not 0 .. 100");
    for (int wrong : new int[] {-1, 101, LEAST, MOST}) {
      DozingDevices x = row(1, 0);
      x.watch(5);
      x.tick(4);
      due("watch(" + wrong + ")", x.watch(wrong), false);
      due("figure(1)", x.figure(1), 4);
      x.tick(1);
      due("figure(2)", x.figure(2), 0);
      x.tick(1);
      due("figure(2), by the limit that stands", x.figure(2), 1);
      DozingDevices off = row(1, 0);
      due("watch(" + wrong + ")", off.watch(wrong), false);
      off.tick(200);
      due("it stays off", off.figure(1) + off.figure(2), 0);
    }
    for (int right : new int[] {0, 1, 99, 100}) due("watch(" + right + ")", row(1, 0).watch(right), true);
  }

  private static void watchOffAndOn() {
    about("promise 9: or off when it is 0; the ticks since the kick are 0");
    DozingDevices x = row(1, 0);
    x.watch(10);
    x.tick(10);
    due("watch(10), the same limit", x.watch(10), true);
    due("figure(1)", x.figure(1), 0);
    x.tick(10);
    due("figure(2)", x.figure(2), 0);
    due("watch(0)", x.watch(0), true);
    due("figure(1)", x.figure(1), 0);
    x.tick(200);
    due("figure(1), off", x.figure(1), 0);
    due("figure(2), off", x.figure(2), 0);
    x.watch(1);
    x.tick(1);
    due("figure(2)", x.figure(2), 0);
    x.tick(1);
    due("figure(2), on again", x.figure(2), 1);
    for (int phase = RUNNING; phase <= BACKING; phase++) {
      DozingDevices y = Scenes.inPhase(phase);
      due("watch(7) in the phase " + phase, y.watch(7), true);
      due("figure(1)", y.figure(1), 0);
      due("phase()", y.phase(), phase);
    }
  }

  private static void kickOnOrOff() {
    about("promise 10: The ticks since the kick become 0 (the watch on or off); answers what they were");
    DozingDevices x = row(1, 0);
    due("kick(), off", x.kick(), 0);
    x.watch(100);
    x.tick(100);
    due("kick() at the limit", x.kick(), 100);
    due("kick() again", x.kick(), 0);
    x.tick(100);
    due("figure(2), no reset", x.figure(2), 0);
    x.tick(1);
    due("kick() after a reset", x.kick(), 0);
    due("figure(2)", x.figure(2), 1);
    x.tick(3);
    x.watch(0);
    due("kick(), off again", x.kick(), 0);
    for (int phase = RUNNING; phase <= BACKING; phase++) {
      DozingDevices y = Scenes.inPhase(phase);
      int since = y.figure(1);
      due("since > 0", since > 0, true);
      due("kick() in the phase " + phase, y.kick(), since);
      due("figure(1)", y.figure(1), 0);
    }
  }

  // ---- Promises 11 to 20 ----

  private static void promises11To20() {
    ticksOutside();
    tickCountsEachTime();
    manyTicksAreOneByOne();
    askedWithoutDevice();
    dueAndLeftOfNone();
    namedOfTheLatest();
    figureOutside();
    figuresOfAllTimes();
  }

  private static void ticksOutside() {
    about("promise 11: BAD when n is not 0 .. 200");
    for (int phase = RUNNING; phase <= BACKING; phase++) {
      DozingDevices x = Scenes.inPhase(phase);
      String before = Scenes.whole(x);
      for (int n : new int[] {-1, 201, LEAST, MOST}) due("tick(" + n + ")", x.tick(n), BAD);
      due("tick(0)", x.tick(0), 0);
      due("whole", Scenes.whole(x), before);
    }
    DozingDevices y = row(1, 0);
    due("tick(200)", y.tick(200), 0);
    due("tick(199)", y.tick(199), 0);
    due("tick(1)", y.tick(1), 0);
    due("figure(0)", y.figure(0), 400);
  }

  private static void tickCountsEachTime() {
    about("promise 11: a device counts each time; in a reset: once for every device that was not ON");
    DozingDevices x = row(3, 1);
    x.watch(1);
    due("tick(200), 3 doze and 3 are reset, 100 times", x.tick(200), 600);
    due("figure(2)", x.figure(2), 100);
    x.use(1);
    due("tick(2), one of them ON in the first reset", x.tick(2), 4);
    due("tick(2), none of them in the next", x.tick(2), 6);
    DozingDevices y = row(3, 0);
    y.watch(1);
    due("tick(2), all being ON", y.tick(2), 0);
    DozingDevices z = row(2, 0);
    z.refuse(0, 1);
    z.sleep();
    due("tick(3), OFF and ON again", z.tick(3), 2);
  }

  private static void manyTicksAreOneByOne() {
    about("promise 11: Makes n ticks");
    for (int phase = RUNNING; phase <= BACKING; phase++) {
      DozingDevices at = Scenes.inPhase(phase);
      DozingDevices byOne = Scenes.inPhase(phase);
      int sum = 0;
      for (int i = 0; i < 200; i++) sum += byOne.tick(1);
      due("tick(200) from the phase " + phase, at.tick(200), sum);
      due("whole", Scenes.whole(at), Scenes.whole(byOne));
    }
  }

  private static void askedWithoutDevice() {
    about("promises 13 to 16: BAD when there is none");
    for (int count : new int[] {0, 1, 11, 12}) {
      DozingDevices x = row(count, 0);
      for (int d : new int[] {-1, count, 12, 13, 31, 32, 33, LEAST, MOST}) {
        due("state(" + d + ") of " + count, x.state(d), BAD);
        due("uses(" + d + ") of " + count, x.uses(d), BAD);
        due("idle(" + d + ") of " + count, x.idle(d), BAD);
        due("refusals(" + d + ") of " + count, x.refusals(d), BAD);
      }
      if (count == 0) continue;
      due("state of the last", x.state(count - 1), ON);
      due("uses of the last", x.uses(count - 1), 0);
      due("idle of the last", x.idle(count - 1), 0);
      due("refusals of the last", x.refusals(count - 1), 0);
    }
  }

  private static void dueAndLeftOfNone() {
    about("promises 17 and 18: NONE when none is; 0 when none is due");
    for (int phase = RUNNING; phase <= BACKING; phase++) {
      DozingDevices x = Scenes.inPhase(phase);
      boolean none = phase == RUNNING || phase == ASLEEP;
      due("due() is NONE in the phase " + phase, x.due() == NONE, none);
      due("left() is 0 in the phase " + phase, x.left() == 0, none);
    }
    due("due() without devices", new DozingDevices().due(), NONE);
    due("left() without devices", new DozingDevices().left(), 0);
  }

  private static void namedOfTheLatest() {
    about("promise 19: by the latest sleep that was given up (others may have come off since); "
        + "NONE when none was since the beginning or the latest reset");
    DozingDevices x = row(12, 0);
    x.waker(0, true);
    x.waker(11, true);
    due("named() at the beginning", x.named(), NONE);
    x.sleep();
    x.signal(0);
    due("the first device", x.named(), 0);
    x.sleep();
    x.signal(11);
    due("the last device", x.named(), 11);
    x.sleep();
    x.tick(12);
    due("phase()", x.phase(), ASLEEP);
    due("one came off since", x.named(), 11);
    due("figure(5)", x.figure(5), 2);
    x.signal(0);
    x.tick(12);
    due("it rose since", x.named(), 11);
    x.watch(1);
    x.tick(2);
    due("after a reset", x.named(), NONE);
    due("figure(5)", x.figure(5), 0);
    x.watch(0);
    x.refuse(11, 1);
    x.sleep();
    x.tick(1);
    due("after one since the reset", x.named(), 11);
    due("figure(5)", x.figure(5), 1);
    x.sleep();
    x.signal(0);
    due("figure(5) is of the latest one", x.figure(5), 2);
  }

  private static void figureOutside() {
    about("promise 20: BAD when k is not 0 .. 6");
    for (int phase = RUNNING; phase <= BACKING; phase++) {
      DozingDevices x = Scenes.inPhase(phase);
      for (int k : new int[] {-1, 7, 8, 32, LEAST, MOST}) due("figure(" + k + ")", x.figure(k), BAD);
      due("figure(6)", x.figure(6), 3);
    }
    for (int k = 0; k <= 6; k++) due("figure(" + k + ")", new DozingDevices().figure(k), 0);
  }

  private static void figuresOfAllTimes() {
    about("promise 20: how many resets there were; how often ASLEEP; how many sleeps were given up");
    DozingDevices x = row(1, 0);
    x.waker(0, true);
    for (int i = 1; i <= 20; i++) {
      x.sleep();
      x.tick(1);
      due("figure(3)", x.figure(3), i);
      x.signal(0);
      x.tick(1);
      x.sleep();
      x.signal(0);
      due("figure(4)", x.figure(4), i);
      x.watch(1);
      x.tick(2);
      due("figure(2)", x.figure(2), i);
      x.watch(0);
    }
  }
}
