import java.util.Random;

/**
 * Runs of drawn calls, right and wrong, against a second telling of the document. An object is good for
 * 512 calls, its questions among them: so some runs ask nothing after a call and others up to eight
 * questions, and are the shorter for it; at the end of each run all that can be asked is compared.
 */
public final class ModelTest {
  private static final int RUNS = 20000;
  private static final int CALLS = 512;
  private static final int CALLS_TO_COMPARE = 69;
  private static final Checks checks = new Checks();

  public static void main(String[] args) {
    for (int seed = 0; seed < RUNS && checks.wrong() == 0; seed++) oneRun(seed);
    reached();
    checks.end();
  }

  // Without these a run would prove little: each must come up often among all the drawn calls.
  private static int resets = 0;
  private static int sleeps = 0;
  private static int refused = 0;
  private static int signalled = 0;
  private static int full = 0;

  private static void reached() {
    if (checks.wrong() != 0) return;
    checks.about("what the runs came to");
    checks.due("resets > 1000", resets > 1000, true);
    checks.due("sleeps > 1000", sleeps > 1000, true);
    checks.due("refused > 1000", refused > 1000, true);
    checks.due("signalled > 1000", signalled > 1000, true);
    checks.due("full > 100", full > 100, true);
  }

  private static void oneRun(int seed) {
    Random random = new Random(seed);
    DozingDevices x = new DozingDevices();
    Model model = new Model();
    int most = 1 + random.nextInt(14);
    int questions = new int[] {0, 1, 3, 8}[seed % 4];
    int made = 0;
    for (int call = 0; made + 1 + questions + CALLS_TO_COMPARE <= CALLS && checks.wrong() == 0; call++) {
      checks.about("seed " + seed + ", call " + call);
      boolean build = call < 2 * most && model.n < most;
      oneCall(random, x, model, build ? 0 : drawKind(random));
      for (int i = 0; i < questions; i++) ask(random, x, model);
      made += 1 + questions;
    }
    compare(x, model);
    resets += model.resets;
    sleeps += model.asleepTimes;
    if (model.n == 12) full++;
  }

  private static int drawKind(Random random) {
    int[] kinds = {0, 1, 1, 1, 2, 2, 2, 3, 4, 4, 5, 5, 6, 6, 6, 7, 8, 9, 9, 9, 9, 9, 9};
    return kinds[random.nextInt(kinds.length)];
  }

  private static int drawDevice(Random random, Model model) {
    if (random.nextInt(20) == 0) return random.nextInt(20) - 4;
    return model.n == 0 ? 0 : random.nextInt(model.n);
  }

  private static int drawNumber(Random random, int least, int most) {
    if (random.nextInt(40) == 0) return random.nextBoolean() ? least - 1 : most + 1;
    return least + random.nextInt(most - least + 1);
  }

  private static void oneCall(Random random, DozingDevices x, Model model, int kind) {
    int d = drawDevice(random, model);
    switch (kind) {
      case 0: {
        int parents = random.nextInt(1 << model.n) & random.nextInt(1 << model.n);
        if (random.nextInt(30) == 0) parents = random.nextInt() >> random.nextInt(31);
        int down = drawNumber(random, 1, random.nextBoolean() ? 3 : 20);
        int up = drawNumber(random, 1, random.nextBoolean() ? 3 : 20);
        int delay = drawNumber(random, 0, random.nextBoolean() ? 4 : 50);
        checks.due("device(" + parents + ", " + down + ", " + up + ", " + delay + ")",
            x.device(parents, down, up, delay), model.device(parents, down, up, delay));
        break;
      }
      case 1: checks.due("use(" + d + ")", x.use(d), model.use(d)); break;
      case 2: checks.due("release(" + d + ")", x.release(d), model.release(d)); break;
      case 3: {
        boolean on = random.nextInt(3) != 0;
        checks.due("waker(" + d + ", " + on + ")", x.waker(d, on), model.waker(d, on));
        break;
      }
      case 4: {
        int n = random.nextInt(4) == 0 ? drawNumber(random, 0, 9) : random.nextInt(2);
        checks.due("refuse(" + d + ", " + n + ")", x.refuse(d, n), model.refuse(d, n));
        break;
      }
      case 5: {
        int before = model.phase;
        int answer = model.signal(d);
        if (before == 1 && answer == 1) signalled++;
        checks.due("signal(" + d + ")", x.signal(d), answer);
        break;
      }
      case 6: checks.due("sleep()", x.sleep(), model.sleep()); break;
      case 7: {
        int limit = random.nextInt(3) == 0 ? 0 : drawNumber(random, 0, 100);
        checks.due("watch(" + limit + ")", x.watch(limit), model.watch(limit));
        break;
      }
      case 8: checks.due("kick()", x.kick(), model.kick()); break;
      default: {
        int n = random.nextInt(8) == 0 ? drawNumber(random, 0, 200) : random.nextInt(6);
        checks.due("tick(" + n + ")", x.tick(n), model.tick(n));
        break;
      }
    }
  }

  private static void ask(Random random, DozingDevices x, Model model) {
    int which = random.nextInt(9);
    int d = random.nextInt(14) - 1;
    switch (which) {
      case 0: checks.due("phase()", x.phase(), model.phase); break;
      case 1: checks.due("due()", x.due(), model.due); break;
      case 2: checks.due("left()", x.left(), model.left); break;
      case 3: checks.due("named()", x.named(), model.named); break;
      case 4: askFigure(x, model, random.nextInt(9) - 1); break;
      default: askOf(x, model, d, which - 5); break;
    }
  }

  private static void askFigure(DozingDevices x, Model model, int k) {
    int[] figures = {model.time, model.kicked, model.resets, model.asleepTimes, model.upGiven, model.why, model.n};
    checks.due("figure(" + k + ")", x.figure(k), k < 0 || k > 6 ? -2 : figures[k]);
  }

  private static void askOf(DozingDevices x, Model model, int d, int what) {
    boolean is = model.is(d);
    switch (what) {
      case 0: checks.due("state(" + d + ")", x.state(d), is ? model.state[d] : -2); break;
      case 1: checks.due("uses(" + d + ")", x.uses(d), is ? model.uses[d] : -2); break;
      case 2: checks.due("idle(" + d + ")", x.idle(d), is ? model.idle[d] : -2); break;
      default: checks.due("refusals(" + d + ")", x.refusals(d), is ? model.refusals[d] : -2); break;
    }
  }

  private static void compare(DozingDevices x, Model model) {
    checks.due("phase()", x.phase(), model.phase);
    checks.due("due()", x.due(), model.due);
    checks.due("left()", x.left(), model.left);
    checks.due("named()", x.named(), model.named);
    for (int k = -1; k <= 7; k++) askFigure(x, model, k);
    for (int d = -1; d <= 12; d++) {
      for (int what = 0; what < 4; what++) askOf(x, model, d, what);
    }
  }

  /** The document told again: parents as a table, the order sought anew, each walk with a place of its own. */
  private static final class Model {
    int n = 0;
    final boolean[][] parent = new boolean[12][12];
    final int[] down = new int[12];
    final int[] up = new int[12];
    final int[] delay = new int[12];
    final int[] state = new int[12];
    final int[] mind = new int[12];
    final int[] uses = new int[12];
    final int[] idle = new int[12];
    final int[] refusals = new int[12];
    final boolean[] waker = new boolean[12];
    int phase = 0;
    int due = -1;
    int left = 0;
    int[] walk = new int[0];
    int place = 0;
    int time = 0;
    int limit = 0;
    int kicked = 0;
    int resets = 0;
    int asleepTimes = 0;
    int upGiven = 0;
    int why = 0;
    int named = -1;

    boolean isAncestor(int a, int d) {
      for (int p = 0; p < d; p++) {
        if (parent[d][p] && (p == a || isAncestor(a, p))) return true;
      }
      return false;
    }

    int depth(int d) {
      int deepest = -1;
      for (int p = 0; p < d; p++) if (parent[d][p]) deepest = Math.max(deepest, depth(p));
      return deepest + 1;
    }

    int[] order() {
      int[] order = new int[n];
      int at = 0;
      for (int depth = 0; depth < 12; depth++) {
        for (int d = 0; d < n; d++) if (depth(d) == depth) order[at++] = d;
      }
      return order;
    }

    boolean is(int d) {
      return 0 <= d && d < n;
    }

    int device(int parents, int downs, int ups, int delays) {
      if (parents < 0) return -2;
      for (int p = n; p < 31; p++) if ((parents >> p & 1) == 1) return -2;
      if (downs < 1 || downs > 20 || ups < 1 || ups > 20 || delays < 0 || delays > 50) return -2;
      if (phase != 0) return -3;
      if (n == 12) return -4;
      int d = n++;
      for (int p = 0; p < d; p++) parent[d][p] = (parents >> p & 1) == 1;
      down[d] = downs;
      up[d] = ups;
      delay[d] = delays;
      state[d] = 2;
      for (int a = 0; a < d; a++) {
        if (isAncestor(a, d)) {
          state[a] = 2;
          idle[a] = 0;
        }
      }
      return d;
    }

    int use(int d) {
      if (!is(d)) return -2;
      if (phase != 0) return -3;
      uses[d]++;
      int count = 0;
      for (int a = 0; a < n; a++) {
        if (a == d || isAncestor(a, d)) {
          if (state[a] != 2) count++;
          state[a] = 2;
          idle[a] = 0;
        }
      }
      return count;
    }

    int release(int d) {
      if (!is(d)) return -2;
      if (phase != 0) return -3;
      return uses[d] == 0 ? -1 : --uses[d];
    }

    boolean waker(int d, boolean on) {
      if (is(d)) waker[d] = on;
      return is(d);
    }

    boolean refuse(int d, int k) {
      if (!is(d) || k < 0 || k > 9) return false;
      refusals[d] = k;
      return true;
    }

    int signal(int d) {
      if (!is(d)) return -2;
      if (!waker[d]) return 0;
      if (phase == 2) {
        back(3);
        return 1;
      }
      if (phase == 1) {
        giveUp(2, d);
        return 1;
      }
      return 0;
    }

    int sleep() {
      if (phase != 0) return -3;
      phase = 1;
      int[] order = order();
      walk = new int[n];
      for (int i = 0; i < n; i++) {
        mind[i] = state[i];
        walk[i] = order[n - 1 - i];
      }
      place = 0;
      goOn();
      return phase;
    }

    void giveUp(int reason, int d) {
      upGiven++;
      why = reason;
      named = d;
      if (reason == 1) refused++;
      back(4);
    }

    void back(int newPhase) {
      phase = newPhase;
      int[] order = order();
      int count = 0;
      for (int d : order) if (state[d] == 0) count++;
      walk = new int[count];
      int at = 0;
      for (int d : order) if (state[d] == 0) walk[at++] = d;
      place = 0;
      goOn();
    }

    /** From the place reached in the walk: those that dozed pass at once, the first that was ON is due. */
    void goOn() {
      while (place < walk.length && mind[walk[place]] == 1) {
        state[walk[place]] = phase == 1 ? 0 : 1;
        place++;
      }
      if (place < walk.length) {
        due = walk[place];
        left = phase == 1 ? down[due] : up[due];
        return;
      }
      due = -1;
      left = 0;
      if (phase == 1) asleepTimes++;
      phase = phase == 1 ? 2 : 0;
    }

    boolean watch(int newLimit) {
      if (newLimit < 0 || newLimit > 100) return false;
      limit = newLimit;
      kicked = 0;
      return true;
    }

    int kick() {
      int was = kicked;
      kicked = 0;
      return was;
    }

    int tick(int count) {
      if (count < 0 || count > 200) return -2;
      int changed = 0;
      for (int i = 0; i < count; i++) {
        int[] before = state.clone();
        tickOnce();
        for (int d = 0; d < n; d++) if (before[d] != state[d]) changed++;
      }
      return changed;
    }

    void tickOnce() {
      time++;
      if (limit > 0 && phase != 2 && ++kicked > limit) {
        reset();
        return;
      }
      if (phase == 0) doze();
      else if (phase != 2 && --left == 0) turned();
    }

    void reset() {
      resets++;
      for (int d = 0; d < n; d++) {
        state[d] = 2;
        uses[d] = 0;
        idle[d] = 0;
      }
      phase = 0;
      due = -1;
      left = 0;
      named = -1;
      why = 0;
      kicked = 0;
    }

    void doze() {
      int[] before = state.clone();
      for (int d = 0; d < n; d++) {
        boolean free = before[d] == 2 && uses[d] == 0;
        for (int c = d + 1; c < n; c++) if (parent[c][d] && before[c] == 2) free = false;
        idle[d] = free ? idle[d] + 1 : 0;
      }
      for (int d = 0; d < n; d++) {
        if (state[d] == 2 && delay[d] != 0 && idle[d] >= delay[d]) state[d] = 1;
      }
    }

    void turned() {
      if (phase == 1 && refusals[due] > 0) {
        refusals[due]--;
        giveUp(1, due);
        return;
      }
      state[due] = phase == 1 ? 0 : 2;
      place++;
      goOn();
    }
  }
}
