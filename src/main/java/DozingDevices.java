import java.util.ArrayList;

public final class DozingDevices {
    public static final int NONE = -1;
    public static final int BAD = -2;
    public static final int BUSY = -3;
    public static final int FULL = -4;

    private static final int OFF = 0;
    private static final int DOZING = 1;
    private static final int ON = 2;

    private static final int RUNNING = 0;
    private static final int SINKING = 1;
    private static final int ASLEEP = 2;
    private static final int RISING = 3;
    private static final int BACKING = 4;

    private static final int NO_REASON = 0;
    private static final int BY_REFUSAL = 1;
    private static final int BY_SIGNAL = 2;

    private static final int MOST_DEVICES = 12;
    private static final int LONGEST_TURN = 20;
    private static final int LONGEST_DELAY = 50;
    private static final int MOST_REFUSALS = 9;
    private static final int GREATEST_LIMIT = 100;
    private static final int MOST_TICKS = 200;

    private final ArrayList<Device> devices = new ArrayList<>();
    private final ArrayList<Device> order = new ArrayList<>();
    private int phase = RUNNING;
    private Device dueDevice = null;
    private int ticksLeft = 0;
    private int time = 0;
    private int watchLimit = 0;
    private int sinceKick = 0;
    private int resets = 0;
    private int timesAsleep = 0;
    private int givenUp = 0;
    private int reason = NO_REASON;
    private int namedDevice = NONE;
    // Grows with every change of a state; a call that must count them takes the difference.
    private int turns = 0;

    private static final class Device {
        final int number;
        final int parents;
        final int ancestors;
        final int depth;
        final int down;
        final int up;
        final int delay;
        int state = ON;
        int inMind = ON;
        int uses = 0;
        int idle = 0;
        int refusals = 0;
        boolean isWaker = false;

        Device(int number, int parents, int ancestors, int depth, int down, int up, int delay) {
            this.number = number;
            this.parents = parents;
            this.ancestors = ancestors;
            this.depth = depth;
            this.down = down;
            this.up = up;
            this.delay = delay;
        }
    }

    public DozingDevices() {
    }

    public int device(int parents, int down, int up, int delay) {
        if (!areDevices(parents) || !isWithin(down, 1, LONGEST_TURN)
                || !isWithin(up, 1, LONGEST_TURN) || !isWithin(delay, 0, LONGEST_DELAY)) {
            return BAD;
        }
        if (phase != RUNNING) {
            return BUSY;
        }
        if (devices.size() >= MOST_DEVICES) {
            return FULL;
        }
        Device added = new Device(devices.size(), parents, withAncestors(parents),
                depthUnder(parents), down, up, delay);
        devices.add(added);
        order.add(placeFor(added.depth), added);
        rouse(added.ancestors);
        return added.number;
    }

    public int use(int d) {
        Device x = find(d);
        if (x == null) {
            return BAD;
        }
        if (phase != RUNNING) {
            return BUSY;
        }
        x.uses++;
        int before = turns;
        rouse(x.ancestors | bit(x));
        return turns - before;
    }

    public int release(int d) {
        Device x = find(d);
        if (x == null) {
            return BAD;
        }
        if (phase != RUNNING) {
            return BUSY;
        }
        if (x.uses == 0) {
            return NONE;
        }
        x.uses--;
        return x.uses;
    }

    public boolean waker(int d, boolean on) {
        Device x = find(d);
        if (x == null) {
            return false;
        }
        x.isWaker = on;
        return true;
    }

    public boolean refuse(int d, int n) {
        Device x = find(d);
        if (x == null || !isWithin(n, 0, MOST_REFUSALS)) {
            return false;
        }
        x.refusals = n;
        return true;
    }

    public int signal(int d) {
        Device x = find(d);
        if (x == null) {
            return BAD;
        }
        if (x.isWaker && phase == ASLEEP) {
            comeBack(RISING);
            return 1;
        }
        if (x.isWaker && phase == SINKING) {
            giveUp(BY_SIGNAL, x);
            return 1;
        }
        return 0;
    }

    public int sleep() {
        if (phase != RUNNING) {
            return BUSY;
        }
        for (int i = 0; i < devices.size(); i++) {
            Device x = devices.get(i);
            x.inMind = x.state;
        }
        phase = SINKING;
        sinkFurther();
        return phase;
    }

    public boolean watch(int limit) {
        if (!isWithin(limit, 0, GREATEST_LIMIT)) {
            return false;
        }
        watchLimit = limit;
        sinceKick = 0;
        return true;
    }

    public int kick() {
        int before = sinceKick;
        sinceKick = 0;
        return before;
    }

    public int tick(int n) {
        if (!isWithin(n, 0, MOST_TICKS)) {
            return BAD;
        }
        int before = turns;
        for (int i = 0; i < n; i++) {
            passOneTick();
        }
        return turns - before;
    }

    public int phase() {
        return phase;
    }

    public int state(int d) {
        Device x = find(d);
        return x == null ? BAD : x.state;
    }

    public int uses(int d) {
        Device x = find(d);
        return x == null ? BAD : x.uses;
    }

    public int idle(int d) {
        Device x = find(d);
        return x == null ? BAD : x.idle;
    }

    public int refusals(int d) {
        Device x = find(d);
        return x == null ? BAD : x.refusals;
    }

    public int due() {
        return dueDevice == null ? NONE : dueDevice.number;
    }

    public int left() {
        return ticksLeft;
    }

    public int named() {
        return namedDevice;
    }

    public int figure(int k) {
        switch (k) {
            case 0: return time;
            case 1: return sinceKick;
            case 2: return resets;
            case 3: return timesAsleep;
            case 4: return givenUp;
            case 5: return reason;
            case 6: return devices.size();
            default: return BAD;
        }
    }

    private static boolean isWithin(int number, int least, int most) {
        return number >= least && number <= most;
    }

    private static int bit(Device x) {
        return 1 << x.number;
    }

    private static boolean holds(int set, Device x) {
        return (set & bit(x)) != 0;
    }

    private Device find(int d) {
        return isWithin(d, 0, devices.size() - 1) ? devices.get(d) : null;
    }

    private boolean areDevices(int set) {
        return set >= 0 && set >> devices.size() == 0;
    }

    private int withAncestors(int set) {
        int all = set;
        for (int i = 0; i < devices.size(); i++) {
            Device x = devices.get(i);
            if (holds(set, x)) {
                all |= x.ancestors;
            }
        }
        return all;
    }

    private int depthUnder(int parents) {
        int depth = 0;
        for (int i = 0; i < devices.size(); i++) {
            Device x = devices.get(i);
            if (holds(parents, x)) {
                depth = Math.max(depth, x.depth + 1);
            }
        }
        return depth;
    }

    // A new device has the highest number, so it comes behind all that are as deep as it is.
    private int placeFor(int depth) {
        int place = 0;
        for (int i = 0; i < order.size(); i++) {
            if (order.get(i).depth <= depth) {
                place = i + 1;
            }
        }
        return place;
    }

    private void turn(Device x, int state) {
        if (x.state != state) {
            x.state = state;
            turns++;
        }
    }

    private void rouse(int set) {
        for (int i = 0; i < devices.size(); i++) {
            Device x = devices.get(i);
            if (holds(set, x)) {
                turn(x, ON);
                x.idle = 0;
            }
        }
    }

    private void makeDue(Device x, int ticks) {
        dueDevice = x;
        ticksLeft = ticks;
    }

    private void endDue() {
        dueDevice = null;
        ticksLeft = 0;
    }

    // Those that have sunk already are OFF, so that each step may look from the last device again.
    private void sinkFurther() {
        for (int i = order.size() - 1; i >= 0; i--) {
            Device x = order.get(i);
            if (x.state == ON) {
                makeDue(x, x.down);
                return;
            }
            turn(x, OFF);
        }
        endDue();
        phase = ASLEEP;
        timesAsleep++;
    }

    private void giveUp(int why, Device x) {
        givenUp++;
        reason = why;
        namedDevice = x.number;
        comeBack(BACKING);
    }

    private void comeBack(int phaseOnTheWay) {
        phase = phaseOnTheWay;
        comeFurtherBack();
    }

    private void comeFurtherBack() {
        for (int i = 0; i < order.size(); i++) {
            Device x = order.get(i);
            if (x.state == OFF) {
                if (x.inMind == ON) {
                    makeDue(x, x.up);
                    return;
                }
                turn(x, x.inMind);
            }
        }
        endDue();
        phase = RUNNING;
    }

    private void passOneTick() {
        time++;
        if (watchBites()) {
            resetAll();
        } else if (phase == RUNNING) {
            idleOneTick();
        } else if (dueDevice != null) {
            bringNearer(dueDevice);
        }
    }

    private boolean watchBites() {
        if (watchLimit == 0 || phase == ASLEEP) {
            return false;
        }
        sinceKick++;
        return sinceKick > watchLimit;
    }

    private void resetAll() {
        for (int i = 0; i < devices.size(); i++) {
            Device x = devices.get(i);
            turn(x, ON);
            x.uses = 0;
            x.idle = 0;
        }
        endDue();
        phase = RUNNING;
        namedDevice = NONE;
        reason = NO_REASON;
        sinceKick = 0;
        resets++;
    }

    private void idleOneTick() {
        int needed = parentsOfThoseOn();
        for (int i = 0; i < devices.size(); i++) {
            Device x = devices.get(i);
            boolean rests = x.state == ON && x.uses == 0 && !holds(needed, x);
            x.idle = rests ? x.idle + 1 : 0;
            if (rests && x.delay != 0 && x.idle >= x.delay) {
                turn(x, DOZING);
            }
        }
    }

    // Taken before any device dozes off: what counts is how the children were before the tick.
    private int parentsOfThoseOn() {
        int parents = 0;
        for (int i = 0; i < devices.size(); i++) {
            Device x = devices.get(i);
            if (x.state == ON) {
                parents |= x.parents;
            }
        }
        return parents;
    }

    private void bringNearer(Device x) {
        ticksLeft--;
        if (ticksLeft > 0) {
            return;
        }
        if (phase != SINKING) {
            turn(x, ON);
            comeFurtherBack();
        } else if (x.refusals > 0) {
            x.refusals--;
            giveUp(BY_REFUSAL, x);
        } else {
            turn(x, OFF);
            sinkFurther();
        }
    }
}
