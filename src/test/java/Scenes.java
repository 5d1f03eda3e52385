/** Objects in a chosen phase, and all that can be asked of an object as one text. */
final class Scenes {
  private static final int SINKING = 1;
  private static final int ASLEEP = 2;
  private static final int RISING = 3;
  private static final int BACKING = 4;

  private Scenes() {}

  static String states(DozingDevices x) {
    StringBuilder all = new StringBuilder();
    for (int d = 0; d < x.figure(6); d++) all.append(x.state(d));
    return all.toString();
  }

  static String idles(DozingDevices x) {
    StringBuilder all = new StringBuilder();
    for (int d = 0; d < x.figure(6); d++) all.append(d == 0 ? "" : " ").append(x.idle(d));
    return all.toString();
  }

  static String whole(DozingDevices x) {
    String[] names = {"time", "since the kick", "resets", "asleep", "given up", "reason", "devices"};
    StringBuilder all = new StringBuilder();
    for (int k = 0; k <= 6; k++) all.append(names[k]).append(' ').append(x.figure(k)).append(", ");
    all.append("phase ").append(x.phase()).append(", due ").append(x.due());
    all.append(", left ").append(x.left()).append(", named ").append(x.named());
    int count = x.figure(6); // asked once: an object is good for 512 calls, and asking is a call too
    for (int d = 0; d < count; d++) {
      all.append("; device ").append(d).append(": ").append(x.state(d)).append(' ').append(x.uses(d));
      all.append(' ').append(x.idle(d)).append(' ').append(x.refusals(d));
    }
    return all.toString();
  }

  /**
   * Three devices: 0 ON, used once and a waker; its child 1, dozing before the sleep; 2 ON with an idle
   * tick. A sleep was given up before, the watch is on and has seen a tick: no field is as in a new object.
   */
  static DozingDevices inPhase(int phase) {
    DozingDevices x = new DozingDevices();
    x.device(0, 3, 3, 0);
    x.device(1, 2, 2, 1);
    x.device(0, 2, 4, 30);
    x.waker(0, true);
    x.sleep();
    x.signal(0);
    x.use(0);
    x.refuse(1, 3);
    x.watch(90);
    x.tick(1);
    if (phase == SINKING || phase == BACKING) x.sleep();
    if (phase == SINKING) x.tick(1);
    if (phase == BACKING) x.tick(2);
    if (phase == ASLEEP || phase == RISING) intoAsleep(x);
    if (phase == RISING || phase == BACKING) x.signal(0);
    if (phase == RISING || phase == BACKING) x.tick(1);
    return x;
  }

  /** From any phase, without a reset on the way (the watch being kicked). */
  static void intoAsleep(DozingDevices x) {
    x.kick();
    if (x.phase() != SINKING && x.phase() != ASLEEP) x.tick(9);
    x.sleep();
    x.refuse(1, 0);
    x.tick(9);
  }
}
