/**
 * A load moment limiter for a mobile crane, with a simulation of the crane.
 * The document DOC.md says what each method promises; this file keeps to LANGUAGE.md.
 */
public final class CraneLimiter {
    public static final int NONE = -1;
    public static final int NORMAL = 0, WARNING = 1, CUTOUT = 2, BYPASSED = 3;
    public static final int BLOCKED = 0, STATE = 1, OVERLOAD = 2, LIFT = 3;

    private static final int HOIST_UP = 0, HOIST_DOWN = 1, BOOM_UP = 2, BOOM_DOWN = 3;
    private static final int EXTEND = 4, RETRACT = 5, SLEW_RIGHT = 6, SLEW_LEFT = 7;
    private static final int MOTIONS = 8;
    private static final int ALL_MOTIONS = 255;

    private static final int CIRCLE = 3600;
    private static final int LEAST_LENGTH = 1000, GREATEST_LENGTH = 6000;
    private static final int GREATEST_ANGLE = 850;
    private static final int FULL_TENSION = 4;
    private static final int GREATEST_MASS = 100000;
    private static final int FULL_UTILIZATION = 1000, GREATEST_UTILIZATION = 9999;

    private static final int UNDO_LIMIT = 4;
    private static final int TEXT_LIMIT = 80;
    private static final int BOOM_VALUES = 12, LIMITER_VALUES = 8;

    private final State now;
    private final State[] saved;
    private int savedCount;
    private int savedNext;
    private final int[] text;
    private int textLength;
    private final Script script;
    private final Gauge gauge;
    private final Boom trial;

    public CraneLimiter() {
        now = new State();
        saved = new State[UNDO_LIMIT];
        text = new int[TEXT_LIMIT];
        script = new Script();
        gauge = new Gauge();
        trial = new Boom();
    }

    // Set-up

    public int setOutrigger(int outrigger, int extension) throws IndexOutOfBoundsException, IllegalArgumentException {
        requireIndex(outrigger, Chart.OUTRIGGERS);
        requireArgument(extension, 0, Chart.FULL_EXTENSION);
        save();
        return now.chart.extendOutrigger(outrigger, extension);
    }

    public boolean setOnWheels(boolean wheels) {
        save();
        boolean before = now.chart.onWheels;
        now.chart.onWheels = wheels;
        return before;
    }

    public int setCapacity(int table, int row, int column, int mass) throws IndexOutOfBoundsException, IllegalArgumentException {
        requirePlace(table, row, column);
        requireArgument(mass, 0, GREATEST_MASS);
        save();
        int before = now.chart.valueAt(table, row, column);
        now.chart.putValue(table, row, column, mass);
        return before;
    }

    public int fillTable(int table, int moment) throws IndexOutOfBoundsException, IllegalArgumentException {
        requireIndex(table, Chart.TABLES);
        requireArgument(moment, 0, 1000000);
        save();
        now.chart.fill(table, moment);
        return now.chart.sum(table);
    }

    public int capacity(int table, int row, int column) throws IndexOutOfBoundsException {
        requirePlace(table, row, column);
        return now.chart.valueAt(table, row, column);
    }

    public int addZone(int from, int to, int radius, int height) throws IllegalArgumentException, IllegalStateException {
        requireSlew(from);
        requireSlew(to);
        requireArgument(radius, 0, 10000);
        requireArgument(height, 0, 10000);
        requireState(now.zones.count < Zones.LIMIT);
        save();
        now.zones.add(from, to, radius, height);
        return now.zones.count;
    }

    public int removeZone(int index) throws IndexOutOfBoundsException {
        requireIndex(index, now.zones.count);
        save();
        now.zones.remove(index);
        return now.zones.count;
    }

    public int setBoom(int length, int angle, int slew) throws IllegalArgumentException, IllegalStateException {
        requirePosition(length, angle, slew);
        requireState(now.boom.tension == 0);
        save();
        now.boom.place(length, angle, slew);
        return now.zones.violation(now.boom);
    }

    public int wind(int speed) throws IllegalArgumentException {
        requireArgument(speed, 0, 1000);
        save();
        now.chart.takeSample(speed);
        return now.chart.windSpeed();
    }

    public int attach(int mass) throws IllegalArgumentException, IllegalStateException {
        requireArgument(mass, 0, GREATEST_MASS);
        requireState(now.boom.tension == 0 && now.boom.height == 0);
        save();
        int before = now.boom.mass;
        now.boom.mass = mass;
        return before;
    }

    public int setTare(int mass) throws IllegalArgumentException {
        requireArgument(mass, 0, 2000);
        save();
        int before = now.boom.tare;
        now.boom.tare = mass;
        return before;
    }

    public int bypass(int ticks) throws IllegalArgumentException {
        requireArgument(ticks, 0, 1000);
        save();
        int before = now.bypassTime;
        now.bypassTime = ticks;
        return before;
    }

    // Motions

    public int run(int motions, int ticks) throws IllegalArgumentException {
        requireArgument(motions, 0, ALL_MOTIONS);
        requireNoOpposites(motions);
        requireArgument(ticks, 1, 100);
        save();
        int free = 0;
        for (int i = 0; i < ticks; i++) {
            if (tick(motions)) {
                free++;
            }
        }
        return free;
    }

    public int permitted() {
        int mask = 0;
        for (int motion = 0; motion < MOTIONS; motion++) {
            if (isPermitted(motion)) {
                mask |= 1 << motion;
            }
        }
        return mask;
    }

    public int predicted(int motion) throws IllegalArgumentException {
        requireArgument(motion, 0, MOTIONS - 1);
        tryMotion(motion);
        return utilizationAt(trial, trial.slew);
    }

    // Values

    public int boom(int what) throws IllegalArgumentException {
        requireArgument(what, 0, BOOM_VALUES - 1);
        return boomValue(what);
    }

    public int limiter(int what) throws IllegalArgumentException {
        requireArgument(what, 0, LIMITER_VALUES - 1);
        return limiterValue(what);
    }

    // Planning

    public int rated(int length, int angle, int slew) throws IllegalArgumentException {
        requirePosition(length, angle, slew);
        trial.place(length, angle, slew);
        return now.chart.ratedAt(length, trial.radius(), slew);
    }

    public int maxRadius(int mass) throws IllegalArgumentException {
        requireArgument(mass, 1, GREATEST_MASS);
        // The tables need not fall with the radius, so each radius is looked at.
        for (int radius = Chart.GREATEST_RADIUS; radius >= Chart.LEAST_RADIUS; radius--) {
            if (now.chart.ratedAt(now.boom.length, radius, now.boom.slew) >= mass) {
                return radius;
            }
        }
        return NONE;
    }

    public int worstSlew(int from, int to, int what) throws IllegalArgumentException {
        requireSlew(from);
        requireSlew(to);
        requireArgument(what, 0, 1);
        gauge.read(now.boom);
        int way = clockwise(from, to);
        int worst = NONE;
        int worstAngle = from;
        for (int step = 0; step <= way; step += 50) {
            int slew = (from + step) % CIRCLE;
            int rated = now.chart.ratedAt(now.boom.length, gauge.radius, slew);
            int utilization = utilization(gauge.net, rated);
            if (utilization > worst) {
                worst = utilization;
                worstAngle = slew;
            }
        }
        return what == 0 ? worst : worstAngle;
    }

    // Log and statistics

    public int events() {
        return now.log.count;
    }

    public int event(int index, int what) throws IndexOutOfBoundsException, IllegalArgumentException {
        requireIndex(index, now.log.count);
        requireArgument(what, 0, 2);
        return now.log.part(index, what);
    }

    public int stateTime(int state) throws IllegalArgumentException {
        requireArgument(state, 0, Tally.STATES - 1);
        return now.tally.stateTimes[state];
    }

    public int lifts(int liftClass) throws IllegalArgumentException {
        requireArgument(liftClass, 0, Tally.CLASSES - 1);
        return now.tally.liftCounts[liftClass];
    }

    public int spectrum() {
        return now.tally.loadSpectrum();
    }

    // Scripts, undo and checksum

    public int type(int value) throws IllegalArgumentException, IllegalStateException {
        requireArgument(value, 0, 127);
        requireState(textLength < text.length);
        if (textLength >= 0 && textLength < text.length) {
            text[textLength] = value;
            textLength++;
        }
        return textLength;
    }

    public int clearText() {
        int before = textLength;
        textLength = 0;
        return before;
    }

    public int runScript() {
        int fault = script.read(text, textLength);
        if (fault != NONE) {
            return -10 - fault;
        }
        save();
        int passed = 0;
        for (int order = 0; order < script.count; order++) {
            int motions = script.motionsOf(order);
            int ticks = script.ticksOf(order);
            for (int i = 0; i < ticks; i++) {
                tick(motions);
            }
            passed += ticks;
        }
        return passed;
    }

    public int undo() throws IllegalStateException {
        requireState(savedCount > 0);
        savedNext = Math.floorMod(savedNext - 1, UNDO_LIMIT);
        savedCount--;
        State latest = saved[savedNext];
        if (latest != null) {
            now.copyFrom(latest);
        }
        return savedCount;
    }

    public long digest() {
        long h = 19763;
        h = 31 * h + savedCount;
        h = 31 * h + textLength;
        for (int what = 0; what < BOOM_VALUES; what++) {
            h = 31 * h + boomValue(what);
        }
        for (int what = 0; what < LIMITER_VALUES; what++) {
            h = 31 * h + limiterValue(what);
        }
        h = 31 * h + permitted();
        h = 31 * h + now.boom.tare;
        h = now.chart.hash(h);
        h = now.zones.hash(h);
        h = now.log.hash(h);
        return now.tally.hash(h);
    }

    // Tests of arguments and state

    private static void requireIndex(int index, int count) {
        if (index < 0 || index >= count) {
            throw new IndexOutOfBoundsException("there is no such place");
        }
    }

    private static void requirePlace(int table, int row, int column) {
        requireIndex(table, Chart.TABLES);
        requireIndex(row, Chart.ROWS);
        requireIndex(column, Chart.COLUMNS);
    }

    private static void requireArgument(int value, int least, int greatest) {
        if (value < least || value > greatest) {
            throw new IllegalArgumentException("an argument is out of range");
        }
    }

    private static void requireSlew(int slew) {
        requireArgument(slew, 0, CIRCLE - 1);
    }

    private static void requirePosition(int length, int angle, int slew) {
        requireArgument(length, LEAST_LENGTH, GREATEST_LENGTH);
        requireArgument(angle, 0, GREATEST_ANGLE);
        requireSlew(slew);
    }

    private static void requireNoOpposites(int motions) {
        for (int motion = 0; motion < MOTIONS; motion += 2) {
            int pair = 3 << motion;
            if ((motions & pair) == pair) {
                throw new IllegalArgumentException("two opposite motions are commanded");
            }
        }
    }

    private static void requireState(boolean allowed) {
        if (!allowed) {
            throw new IllegalStateException("not allowed in the present state");
        }
    }

    // Values of the crane and of the limiter

    private int boomValue(int what) {
        switch (what) {
            case 0: return now.boom.length;
            case 1: return now.boom.angle;
            case 2: return now.boom.slew;
            case 3: return now.boom.radius();
            case 4: return now.boom.tip();
            case 5: return now.boom.height;
            case 6: return now.boom.tension;
            case 7: return now.boom.mass;
            case 8:
                gauge.read(now.boom);
                return gauge.pressure;
            case 9: return now.zones.violation(now.boom);
            case 10: return now.time;
            default: return now.bypassTime;
        }
    }

    private int limiterValue(int what) {
        Boom boom = now.boom;
        gauge.read(boom);
        switch (what) {
            case 0: return gauge.mass;
            case 1: return gauge.radius;
            case 2: return gauge.net;
            case 3: return now.chart.tableAt(boom.slew);
            case 4: return now.chart.windSpeed();
            case 5: return now.chart.ratedAt(boom.length, gauge.radius, boom.slew);
            case 6: return utilizationAt(boom, boom.slew);
            default: return now.state;
        }
    }

    /** The utilization for what is measured at a boom, were its slew angle the given one. */
    private int utilizationAt(Boom boom, int slew) {
        gauge.read(boom);
        return utilization(gauge.net, now.chart.ratedAt(boom.length, gauge.radius, slew));
    }

    private static int utilization(int net, int rated) {
        if (net <= 0) {
            return 0;
        }
        if (rated <= 0) {
            return GREATEST_UTILIZATION;
        }
        return (int) Math.min(GREATEST_UTILIZATION, 1000L * net / rated);
    }

    /** The arc from one slew angle clockwise to another. */
    private static int clockwise(int from, int to) {
        return to >= from ? to - from : to - from + CIRCLE;
    }

    // Ticks

    /** Lets one tick pass, and answers whether no motion was blocked in it. */
    private boolean tick(int motions) {
        int tensionBefore = now.boom.tension;
        now.time++;
        if (now.bypassTime > 0) {
            now.bypassTime--;
        }
        int blocked = 0;
        for (int motion = 0; motion < MOTIONS; motion++) {
            int bit = motions & (1 << motion);
            if (bit == 0) {
                continue;
            }
            if (isPermitted(motion)) {
                now.boom.move(motion, isSlow());
                continue;
            }
            blocked |= bit;
            if ((now.blocked & bit) == 0) {
                now.log.add(now.time, BLOCKED, motion);
            }
        }
        now.blocked = blocked;
        int utilization = utilizationAt(now.boom, now.boom.slew);
        enterState(nextState(utilization), utilization);
        now.countTick(tensionBefore, utilization);
        return blocked == 0;
    }

    private boolean isPermitted(int motion) {
        if (now.boom.isAtEnd(motion)) {
            return false;
        }
        if (now.state == CUTOUT && addsMoment(motion)) {
            return false;
        }
        tryMotion(motion);
        if (now.zones.violation(trial) > now.zones.violation(now.boom)) {
            return false;
        }
        if (motion < SLEW_RIGHT || now.state == BYPASSED) {
            return true;
        }
        int ahead = (now.boom.slew + (motion == SLEW_RIGHT ? 50 : CIRCLE - 50)) % CIRCLE;
        int utilization = utilizationAt(now.boom, ahead);
        return utilization < FULL_UTILIZATION || utilization <= utilizationAt(now.boom, now.boom.slew);
    }

    private static boolean addsMoment(int motion) {
        return motion == HOIST_UP || motion == BOOM_DOWN || motion == EXTEND;
    }

    /** Leaves in the trial boom what one tick of a motion would make of the boom. */
    private void tryMotion(int motion) {
        trial.copyFrom(now.boom);
        trial.move(motion, isSlow());
    }

    private boolean isSlow() {
        return now.state != NORMAL;
    }

    private int nextState(int utilization) {
        boolean wasCutOut = now.state == CUTOUT;
        boolean wasWarning = now.state == WARNING;
        if (now.bypassTime > 0) {
            return BYPASSED;
        }
        if (utilization >= FULL_UTILIZATION || (wasCutOut && utilization >= 950)) {
            return CUTOUT;
        }
        if (utilization >= 900 || ((wasWarning || wasCutOut) && utilization >= 850)) {
            return WARNING;
        }
        return NORMAL;
    }

    private void enterState(int state, int utilization) {
        if (state == now.state) {
            return;
        }
        now.state = state;
        now.log.add(now.time, STATE, state);
        if (state == CUTOUT) {
            now.log.add(now.time, OVERLOAD, utilization);
        }
    }

    /** Puts the present state on the undo stack; called when nothing can stop the call any more. */
    private void save() {
        State row = saved[savedNext];
        if (row == null) {
            row = new State();
            saved[savedNext] = row;
        }
        row.copyFrom(now);
        savedNext = (savedNext + 1) % UNDO_LIMIT;
        savedCount = Math.min(savedCount + 1, UNDO_LIMIT);
    }

    /** All that undo brings back. */
    private static final class State {
        final Boom boom = new Boom();
        final Chart chart = new Chart();
        final Zones zones = new Zones();
        final Log log = new Log();
        final Tally tally = new Tally();
        int state;
        int time;
        int bypassTime;
        /** The motions that were blocked in the latest tick. */
        int blocked;

        void copyFrom(State other) {
            boom.copyFrom(other.boom);
            chart.copyFrom(other.chart);
            zones.copyFrom(other.zones);
            log.copyFrom(other.log);
            tally.copyFrom(other.tally);
            state = other.state;
            time = other.time;
            bypassTime = other.bypassTime;
            blocked = other.blocked;
        }

        void countTick(int tensionBefore, int utilization) {
            tally.countState(state);
            if (tensionBefore < FULL_TENSION && boom.tension == FULL_TENSION) {
                tally.beginLift();
            }
            int liftClass = tally.followLift(utilization, boom.tension == 0);
            if (liftClass != NONE) {
                log.add(time, LIFT, liftClass);
            }
        }
    }

    /** The boom with its hook and its load. */
    private static final class Boom {
        private static final int[] COSINES = {10000, 9848, 9397, 8660, 7660, 6428, 5000, 3420, 1736, 0};

        /** How far the hook stays below the tip. */
        private static final int HOOK_DISTANCE = 200;

        int length = 1500;
        int angle = 600;
        int slew;
        int height;
        int tension;
        int mass;
        int tare = 200;

        void copyFrom(Boom other) {
            length = other.length;
            angle = other.angle;
            slew = other.slew;
            height = other.height;
            tension = other.tension;
            mass = other.mass;
            tare = other.tare;
        }

        void place(int newLength, int newAngle, int newSlew) {
            length = newLength;
            angle = newAngle;
            slew = newSlew;
            height = 0;
        }

        int radius() {
            return Math.max(100, length * cosine(angle) / 10000 - 150);
        }

        int tip() {
            return length * cosine(900 - angle) / 10000 + 250;
        }

        /** The mass that hangs on the rope. */
        int hanging() {
            return mass * tension / FULL_TENSION + tare;
        }

        long deflection(long load) {
            return load * length * length / 750000000;
        }

        long boomMoment(int radius) {
            return (long) (4 * length / 5) * ((radius + 150) / 2);
        }

        /** Carries out a motion for one tick. */
        void move(int motion, boolean slow) {
            switch (motion) {
                case HOIST_UP: hoistUp(slow ? 10 : 20); break;
                case HOIST_DOWN: hoistDown(slow ? 10 : 20); break;
                case BOOM_UP: angle = Math.min(angle + (slow ? 2 : 5), GREATEST_ANGLE); break;
                case BOOM_DOWN: angle = Math.max(angle - (slow ? 2 : 5), 0); break;
                case EXTEND: length = Math.min(length + (slow ? 5 : 10), GREATEST_LENGTH); break;
                case RETRACT: length = Math.max(length - (slow ? 5 : 10), LEAST_LENGTH); break;
                case SLEW_RIGHT: slew = (slew + (slow ? 7 : 15)) % CIRCLE; break;
                case SLEW_LEFT: slew = (slew + CIRCLE - (slow ? 7 : 15)) % CIRCLE; break;
                default: break;
            }
            height = Math.min(height, tip() - HOOK_DISTANCE);
        }

        private void hoistUp(int step) {
            if (takesUpLoad()) {
                tension++;
            } else {
                height += step;
            }
        }

        private void hoistDown(int step) {
            if (height > 0) {
                height = Math.max(height - step, 0);
            } else {
                tension = Math.max(tension - 1, 0);
            }
        }

        /** True if hoisting up tightens the rope and leaves the hook where it is. */
        private boolean takesUpLoad() {
            return mass > 0 && tension < FULL_TENSION;
        }

        /** True if the boom or the hook can go no further with this motion. */
        boolean isAtEnd(int motion) {
            switch (motion) {
                case HOIST_UP: return !takesUpLoad() && height == tip() - HOOK_DISTANCE;
                case HOIST_DOWN: return height == 0 && tension == 0;
                case BOOM_UP: return angle == GREATEST_ANGLE;
                case BOOM_DOWN: return angle == 0;
                case EXTEND: return length == GREATEST_LENGTH;
                case RETRACT: return length == LEAST_LENGTH;
                default: return false;
            }
        }

        private static int cosine(int tenths) {
            int k = tenths / 100;
            if (k < 0 || k >= COSINES.length - 1) {
                return 0;
            }
            int fall = COSINES[k] - COSINES[k + 1];
            return COSINES[k] - fall * (tenths - 100 * k) / 100;
        }
    }

    /** The measuring of a boom's load; its values are those of the latest reading. */
    private static final class Gauge {
        int pressure;
        int mass;
        int radius;
        int net;

        void read(Boom boom) {
            int geometric = boom.radius();
            long boomMoment = boom.boomMoment(geometric);
            long hanging = boom.hanging();
            long arm = geometric + boom.deflection(hanging) + 150;
            pressure = (int) ((hanging * arm + boomMoment) / 500);
            long loadMoment = 500L * pressure - boomMoment;
            mass = massFor(loadMoment, geometric);
            for (int i = 0; i < 3; i++) {
                radius = geometric + (int) boom.deflection(mass);
                mass = massFor(loadMoment, radius);
            }
            net = Math.max(mass - boom.tare, 0);
        }

        private static int massFor(long loadMoment, int radius) {
            int arm = radius + 150;
            return loadMoment <= 0 || arm <= 0 ? 0 : (int) (loadMoment / arm);
        }
    }

    /** The capacity tables, and what selects and lessens them: outriggers, wheels and wind. */
    private static final class Chart {
        static final int TABLES = 4, ROWS = 4, COLUMNS = 6;
        static final int OUTRIGGERS = 4, FULL_EXTENSION = 2;
        static final int LEAST_RADIUS = 300, GREATEST_RADIUS = 3000;
        private static final int PLACES = ROWS * COLUMNS;
        private static final int WHEELS_TABLE = 3;
        private static final int[] LENGTHS = {1000, 2000, 3500, 6000};
        private static final int[] RADII = {300, 600, 1000, 1500, 2200, 3000};

        private final int[] values = new int[TABLES * PLACES];
        private final int[] extensions = {FULL_EXTENSION, FULL_EXTENSION, FULL_EXTENSION, FULL_EXTENSION};
        /** The latest wind samples, the newest one first; a 0 stands for none. */
        private final int[] samples = new int[4];
        boolean onWheels;

        void copyFrom(Chart other) {
            System.arraycopy(other.values, 0, values, 0, values.length);
            System.arraycopy(other.extensions, 0, extensions, 0, extensions.length);
            System.arraycopy(other.samples, 0, samples, 0, samples.length);
            onWheels = other.onWheels;
        }

        int extendOutrigger(int outrigger, int extension) {
            if (outrigger < 0 || outrigger >= extensions.length) {
                return 0;
            }
            int before = extensions[outrigger];
            extensions[outrigger] = extension;
            return before;
        }

        int valueAt(int table, int row, int column) {
            int place = table * PLACES + row * COLUMNS + column;
            return place >= 0 && place < values.length ? values[place] : 0;
        }

        void putValue(int table, int row, int column, int mass) {
            int place = table * PLACES + row * COLUMNS + column;
            if (place >= 0 && place < values.length) {
                values[place] = mass;
            }
        }

        void fill(int table, int moment) {
            for (int column = 0; column < RADII.length; column++) {
                int radius = RADII[column];
                int mass = radius <= 0 ? 0 : Math.min(GREATEST_MASS, 1000 * moment / radius);
                for (int row = 0; row < ROWS; row++) {
                    putValue(table, row, column, mass * (10 - row) / 10);
                }
            }
        }

        int sum(int table) {
            int sum = 0;
            for (int row = 0; row < ROWS; row++) {
                for (int column = 0; column < COLUMNS; column++) {
                    sum += valueAt(table, row, column);
                }
            }
            return sum;
        }

        void takeSample(int speed) {
            for (int i = samples.length - 1; i > 0; i--) {
                samples[i] = samples[i - 1];
            }
            samples[0] = speed;
        }

        int windSpeed() {
            int greatest = 0;
            for (int sample : samples) {
                if (sample > greatest) {
                    greatest = sample;
                }
            }
            return greatest;
        }

        private int windFactor() {
            int beyond = Math.max(windSpeed() - 100, 0);
            return Math.max(1000 - 2 * beyond, 0);
        }

        int tableAt(int slew) {
            if (onWheels) {
                return WHEELS_TABLE;
            }
            int least = FULL_EXTENSION;
            for (int k = 0; k < extensions.length; k++) {
                int arc = clockwise(450 + 900 * k, slew);
                boolean near = arc < 900 || arc > CIRCLE - 900;
                if (near && extensions[k] < least) {
                    least = extensions[k];
                }
            }
            return least;
        }

        int ratedAt(int length, int radius, int slew) {
            return capacityAt(tableAt(slew), length, radius) * windFactor() / 1000;
        }

        private int capacityAt(int table, int length, int radius) {
            if (radius > GREATEST_RADIUS) {
                return 0;
            }
            int row = below(LENGTHS, length);
            int column = below(RADII, radius);
            int near = Math.max(radius, LEAST_RADIUS) - RADII[column];
            int width = RADII[column + 1] - RADII[column];
            int beyond = length - LENGTHS[row];
            int depth = LENGTHS[row + 1] - LENGTHS[row];
            long shorter = (long) valueAt(table, row, column) * (width - near)
                    + (long) valueAt(table, row, column + 1) * near;
            long longer = (long) valueAt(table, row + 1, column) * (width - near)
                    + (long) valueAt(table, row + 1, column + 1) * near;
            long area = (long) width * depth;
            return area <= 0 ? 0 : (int) ((shorter * (depth - beyond) + longer * beyond) / area);
        }

        /** The place of the lower one of the two neighbours of a value in an ascending row. */
        private static int below(int[] ascending, int value) {
            int place = 0;
            for (int i = 1; i < ascending.length - 1; i++) {
                if (ascending[i] <= value) {
                    place = i;
                }
            }
            return place;
        }

        long hash(long start) {
            long h = start;
            for (int extension : extensions) {
                h = 31 * h + extension;
            }
            h = 31 * h + (onWheels ? 1 : 0);
            for (int table = 0; table < TABLES; table++) {
                h = 31 * h + sum(table);
            }
            return h;
        }
    }

    /** The working zones, each of four values: two slew angles, greatest radius, greatest height. */
    private static final class Zones {
        static final int LIMIT = 6;
        private static final int PARTS = 4;

        private final int[] values = new int[LIMIT * PARTS];
        int count;

        void copyFrom(Zones other) {
            System.arraycopy(other.values, 0, values, 0, values.length);
            count = other.count;
        }

        void add(int from, int to, int radius, int height) {
            int first = count * PARTS;
            if (first < 0 || first + PARTS > values.length) {
                return;
            }
            values[first] = from;
            values[first + 1] = to;
            values[first + 2] = radius;
            values[first + 3] = height;
            count++;
        }

        void remove(int index) {
            if (index < 0 || index >= count || count > LIMIT) {
                return;
            }
            for (int i = index * PARTS; i < (count - 1) * PARTS; i++) {
                values[i] = values[i + PARTS];
            }
            count--;
        }

        int violation(Boom boom) {
            int radius = boom.radius();
            int tip = boom.tip();
            int sum = 0;
            for (int first = 0; first < count * PARTS && first + PARTS <= values.length; first += PARTS) {
                int from = values[first];
                if (clockwise(from, boom.slew) <= clockwise(from, values[first + 1])) {
                    sum += Math.max(radius - values[first + 2], 0) + Math.max(tip - values[first + 3], 0);
                }
            }
            return sum;
        }

        long hash(long start) {
            long h = 31 * start + count;
            for (int i = 0; i < count * PARTS && i < values.length; i++) {
                h = 31 * h + values[i];
            }
            return h;
        }
    }

    /** The latest events, held in a ring. */
    private static final class Log {
        private static final int LIMIT = 30;

        private final int[] times = new int[LIMIT];
        private final int[] kinds = new int[LIMIT];
        private final int[] values = new int[LIMIT];
        private int oldest;
        int count;

        void copyFrom(Log other) {
            System.arraycopy(other.times, 0, times, 0, LIMIT);
            System.arraycopy(other.kinds, 0, kinds, 0, LIMIT);
            System.arraycopy(other.values, 0, values, 0, LIMIT);
            oldest = other.oldest;
            count = other.count;
        }

        void add(int time, int kind, int value) {
            int slot = slotOf(count);
            times[slot] = time;
            kinds[slot] = kind;
            values[slot] = value;
            if (count < LIMIT) {
                count++;
            } else {
                oldest = slotOf(1);
            }
        }

        int part(int index, int what) {
            int slot = slotOf(index);
            return what == 0 ? times[slot] : what == 1 ? kinds[slot] : values[slot];
        }

        private int slotOf(int index) {
            return Math.floorMod(oldest + index, LIMIT);
        }

        long hash(long start) {
            long h = 31 * start + count;
            for (int index = 0; index < count; index++) {
                for (int what = 0; what < 3; what++) {
                    h = 31 * h + part(index, what);
                }
            }
            return h;
        }
    }

    /** The times in the states, and the lifts. */
    private static final class Tally {
        static final int STATES = 4, CLASSES = 8;

        final int[] stateTimes = new int[STATES];
        final int[] liftCounts = new int[CLASSES];
        /** The greatest utilization of the lift in progress; NONE if there is no such lift. */
        private int greatest = NONE;

        void copyFrom(Tally other) {
            System.arraycopy(other.stateTimes, 0, stateTimes, 0, STATES);
            System.arraycopy(other.liftCounts, 0, liftCounts, 0, CLASSES);
            greatest = other.greatest;
        }

        void countState(int state) {
            if (state >= 0 && state < STATES) {
                stateTimes[state]++;
            }
        }

        void beginLift() {
            if (greatest == NONE) {
                greatest = 0;
            }
        }

        /** Takes in the utilization of a tick; answers the class of the lift if it ends with it, else NONE. */
        int followLift(int utilization, boolean slack) {
            if (greatest < 0) {
                return NONE;
            }
            greatest = Math.max(greatest, utilization);
            if (!slack) {
                return NONE;
            }
            int liftClass = Math.min(greatest / 125, CLASSES - 1);
            liftCounts[liftClass]++;
            greatest = NONE;
            return liftClass;
        }

        int loadSpectrum() {
            long weighted = 0;
            long all = 0;
            for (int i = 0; i < CLASSES; i++) {
                weighted += (long) liftCounts[i] * (i + 1) * (i + 1) * (i + 1);
                all += liftCounts[i];
            }
            return all <= 0 ? NONE : (int) (1000 * weighted / (512 * all));
        }

        long hash(long start) {
            long h = start;
            for (int time : stateTimes) {
                h = 31 * h + time;
            }
            for (int lifted : liftCounts) {
                h = 31 * h + lifted;
            }
            return h;
        }
    }

    /** A script that has been read: its orders. */
    private static final class Script {
        /** The shortest order has three bytes, such as w1; */
        private static final int LIMIT = TEXT_LIMIT / 3;
        /** What may come next: a letter, a sign, a first digit, a second digit too, or a semicolon. */
        private static final int LETTER = 0, SIGN = 1, DIGIT = 2, SECOND_DIGIT = 3, SEMICOLON = 4;

        private final int[] motions = new int[LIMIT];
        private final int[] ticks = new int[LIMIT];
        int count;
        private int expected;
        private int mask;
        private int number;

        int motionsOf(int order) {
            return order >= 0 && order < LIMIT ? motions[order] : 0;
        }

        int ticksOf(int order) {
            return order >= 0 && order < LIMIT ? ticks[order] : 0;
        }

        /** Reads the orders from a text; answers the place of the fault, NONE if there is none. */
        int read(int[] text, int length) {
            count = 0;
            expected = LETTER;
            for (int i = 0; i < length && i < text.length; i++) {
                if (!accepts(text[i])) {
                    return i;
                }
            }
            return expected == LETTER ? NONE : length;
        }

        private boolean accepts(int c) {
            switch (expected) {
                case LETTER: return c == ' ' || acceptsLetter(c);
                case SIGN: return c == ' ' || acceptsSign(c);
                case DIGIT: return c == ' ' || acceptsDigit(c, SECOND_DIGIT);
                case SECOND_DIGIT: return acceptsDigit(c, SEMICOLON) || acceptsBehindNumber(c);
                default: return acceptsBehindNumber(c);
            }
        }

        private boolean acceptsLetter(int c) {
            switch (c) {
                case 'h': mask = 1 << HOIST_UP; break;
                case 'b': mask = 1 << BOOM_UP; break;
                case 'e': mask = 1 << EXTEND; break;
                case 's': mask = 1 << SLEW_RIGHT; break;
                case 'w': mask = 0; break;
                default: return false;
            }
            number = 0;
            expected = c == 'w' ? DIGIT : SIGN;
            return true;
        }

        private boolean acceptsSign(int c) {
            if (c != '+' && c != '-') {
                return false;
            }
            if (c == '-') {
                // The opposite of each motion has the next number.
                mask <<= 1;
            }
            expected = DIGIT;
            return true;
        }

        private boolean acceptsDigit(int c, int next) {
            if (c < '0' || c > '9') {
                return false;
            }
            number = number * 10 + (c - '0');
            expected = next;
            return true;
        }

        private boolean acceptsBehindNumber(int c) {
            if (number == 0) {
                return false;
            }
            if (c == ' ') {
                expected = SEMICOLON;
                return true;
            }
            return c == ';' && keepOrder();
        }

        private boolean keepOrder() {
            if (count < 0 || count >= LIMIT) {
                return false;
            }
            motions[count] = mask;
            ticks[count] = number;
            count++;
            expected = LETTER;
            return true;
        }
    }
}
