import java.util.ArrayDeque;
import java.util.ArrayList;
import java.util.Arrays;
import java.util.Deque;
import java.util.HashMap;
import java.util.List;
import java.util.Map;
import java.util.regex.Matcher;
import java.util.regex.Pattern;

/**
 * A second crane, written from the document alone and as slowly as it reads there:
 * the random runs compare the program with it.
 */
public final class CraneModel {
    private static final int[] ROW = {1000, 2000, 3500, 6000};
    private static final int[] COLUMN = {300, 600, 1000, 1500, 2200, 3000};
    // A sign that no text holds stands behind 00, so that 00 is a beginning of a script but of no whole one.
    private static final String NUMBER = "(?:[1-9][0-9]?|0[1-9]|00\u0100)";
    private static final Pattern ORDER = Pattern.compile(" *(?:([hbes]) *([+-])|(w)) *(" + NUMBER + ") *;");
    private static final Pattern SCRIPT = Pattern.compile("(?: *(?:[hbes] *[+-]|w) *" + NUMBER + " *;)* *");

    private Map<String, Integer> number = new HashMap<>();
    private int[][][] table = new int[4][4][6];
    private List<Integer> outriggers = new ArrayList<>(List.of(2, 2, 2, 2));
    private List<Integer> samples = new ArrayList<>();
    private List<int[]> zones = new ArrayList<>();
    private List<int[]> log = new ArrayList<>();
    private List<Integer> blockedBefore = new ArrayList<>();
    private int[] stateTime = new int[4];
    private int[] lifts = new int[8];
    private Integer lift = null;

    private final Deque<CraneModel> stack;
    private final StringBuilder text;

    public CraneModel() {
        this(new ArrayDeque<>(), new StringBuilder());
        put("L", 1500);
        put("A", 600);
        put("tare", 200);
    }

    private CraneModel(Deque<CraneModel> stack, StringBuilder text) {
        this.stack = stack;
        this.text = text;
    }

    private int get(String name) {
        return number.getOrDefault(name, 0);
    }

    private int put(String name, int value) {
        Integer before = number.put(name, value);
        return before == null ? 0 : before;
    }

    private CraneModel copy() {
        CraneModel c = new CraneModel(null, null);
        c.take(this);
        return c;
    }

    private void take(CraneModel o) {
        number = new HashMap<>(o.number);
        table = new int[4][4][];
        for (int t = 0; t < 4; t++) {
            for (int r = 0; r < 4; r++) {
                table[t][r] = o.table[t][r].clone();
            }
        }
        outriggers = new ArrayList<>(o.outriggers);
        samples = new ArrayList<>(o.samples);
        zones = new ArrayList<>(o.zones);
        log = new ArrayList<>(o.log);
        blockedBefore = new ArrayList<>(o.blockedBefore);
        stateTime = o.stateTime.clone();
        lifts = o.lifts.clone();
        lift = o.lift;
    }

    private void undoable() {
        stack.push(copy());
        if (stack.size() > 4) {
            stack.removeLast();
        }
    }

    private static void requireIndex(boolean right) {
        if (!right) throw new IndexOutOfBoundsException();
    }

    private static void argument(boolean right) {
        if (!right) throw new IllegalArgumentException();
    }

    private static void state(boolean right) {
        if (!right) throw new IllegalStateException();
    }

    private static boolean in(int v, int a, int b) {
        return a <= v && v <= b;
    }

    // GEOMETRY

    private static long c(int a) {
        long[] c = {10000, 9848, 9397, 8660, 7660, 6428, 5000, 3420, 1736, 0};
        if (a % 100 == 0) return c[a / 100];
        int k = a / 100;
        return c[k] - Math.floorDiv((c[k] - c[k + 1]) * (a - 100L * k), 100L);
    }

    private static long r0(int l, int a) {
        return Math.max(100, Math.floorDiv(l * c(a), 10000L) - 150);
    }

    private static long h(int l, int a) {
        return Math.floorDiv(l * c(900 - a), 10000L) + 250;
    }

    // ROPE AND LOAD, MEASUREMENT

    private long x() {
        return Math.floorDiv((long) get("mass") * get("tension"), 4L) + get("tare");
    }

    private long d(long m) {
        return Math.floorDiv(m * get("L") * get("L"), 750000000L);
    }

    private long mb() {
        return Math.floorDiv(4L * get("L"), 5L) * Math.floorDiv(r0(get("L"), get("A")) + 150, 2L);
    }

    private long p() {
        return Math.floorDiv(x() * (r0(get("L"), get("A")) + d(x()) + 150) + mb(), 500L);
    }

    private long[] measured() {
        long r0 = r0(get("L"), get("A"));
        long q = Math.max(0, Math.floorDiv(500 * p() - mb(), r0 + 150));
        long r = 0;
        for (int i = 1; i <= 3; i++) {
            r = r0 + d(q);
            q = Math.max(0, Math.floorDiv(500 * p() - mb(), r + 150));
        }
        return new long[] {q, r, Math.max(0, q - get("tare"))};
    }

    // CAPACITY

    private long capacityAt(int t, long length, long radius) {
        if (radius > 3000) return 0;
        if (radius < 300) radius = 300;
        for (int i = 0; i < 3; i++) {
            for (int j = 0; j < 5; j++) {
                long l0 = ROW[i], l1 = ROW[i + 1], r0 = COLUMN[j], r1 = COLUMN[j + 1];
                if (l0 <= length && length <= l1 && r0 <= radius && radius <= r1) {
                    long c00 = table[t][i][j], c01 = table[t][i][j + 1];
                    long c10 = table[t][i + 1][j], c11 = table[t][i + 1][j + 1];
                    return Math.floorDiv((c00 * (r1 - radius) + c01 * (radius - r0)) * (l1 - length)
                            + (c10 * (r1 - radius) + c11 * (radius - r0)) * (length - l0), (r1 - r0) * (l1 - l0));
                }
            }
        }
        throw new AssertionError("no neighbours");
    }

    private int tableAt(int s) {
        if (get("wheels") == 1) return 3;
        int least = 9;
        for (int k = 0; k < 4; k++) {
            int one = Math.floorMod(s - (450 + 900 * k), 3600);
            int other = Math.floorMod(450 + 900 * k - s, 3600);
            if (Math.min(one, other) < 900) least = Math.min(least, outriggers.get(k));
        }
        return least;
    }

    private int windNow() {
        int greatest = 0;
        for (int i = Math.max(0, samples.size() - 4); i < samples.size(); i++) {
            greatest = Math.max(greatest, samples.get(i));
        }
        return greatest;
    }

    private long ratedFor(long length, long radius, int s) {
        int w = windNow();
        long factor = w <= 100 ? 1000 : Math.max(0, 1000 - 2 * (w - 100));
        return Math.floorDiv(capacityAt(tableAt(s), length, radius) * factor, 1000L);
    }

    private int utilization(int s) {
        long[] m = measured();
        long rated = ratedFor(get("L"), m[1], s);
        if (m[2] == 0) return 0;
        if (rated == 0) return 9999;
        return (int) Math.min(9999, Math.floorDiv(1000 * m[2], rated));
    }

    private int present() {
        return utilization(get("S"));
    }

    // ZONES

    private int violation() {
        long sum = 0;
        for (int[] z : zones) {
            int s = get("S");
            boolean met = z[0] <= z[1] ? in(s, z[0], z[1]) : s >= z[0] || s <= z[1];
            if (met) {
                sum += Math.max(0, r0(get("L"), get("A")) - z[2]) + Math.max(0, h(get("L"), get("A")) - z[3]);
            }
        }
        return (int) sum;
    }

    // MOTIONS

    private void move(int motion) {
        boolean normal = get("state") == 0;
        int hook = normal ? 20 : 10, angle = normal ? 5 : 2, length = normal ? 10 : 5, slew = normal ? 15 : 7;
        if (motion == 0) {
            if (get("mass") > 0 && get("tension") < 4) put("tension", get("tension") + 1);
            else put("height", get("height") + hook);
        }
        if (motion == 1) {
            if (get("height") > 0) put("height", Math.max(0, get("height") - hook));
            else put("tension", Math.max(0, get("tension") - 1));
        }
        if (motion == 2) put("A", Math.min(850, get("A") + angle));
        if (motion == 3) put("A", Math.max(0, get("A") - angle));
        if (motion == 4) put("L", Math.min(6000, get("L") + length));
        if (motion == 5) put("L", Math.max(1000, get("L") - length));
        if (motion == 6) put("S", Math.floorMod(get("S") + slew, 3600));
        if (motion == 7) put("S", Math.floorMod(get("S") - slew, 3600));
        int most = (int) h(get("L"), get("A")) - 200;
        if (get("height") > most) put("height", most);
    }

    private boolean isPermitted(int motion) {
        boolean stuck = switch (motion) {
            case 0 -> (get("tension") == 4 || get("mass") == 0) && get("height") == h(get("L"), get("A")) - 200;
            case 1 -> get("height") == 0 && get("tension") == 0;
            case 2 -> get("A") == 850;
            case 3 -> get("A") == 0;
            case 4 -> get("L") == 6000;
            case 5 -> get("L") == 1000;
            default -> false;
        };
        boolean cut = get("state") == 2 && List.of(0, 3, 4).contains(motion);
        CraneModel after = copy();
        after.move(motion);
        boolean violates = after.violation() > violation();
        boolean overloads = false;
        if (motion >= 6 && get("state") != 3) {
            int ahead = utilization((get("S") + (motion == 6 ? 50 : 3550)) % 3600);
            overloads = ahead >= 1000 && ahead > present();
        }
        return !(stuck || cut || violates || overloads);
    }

    // STATES AND TICKS

    private void logEvent(int kind, int value) {
        log.add(new int[] {get("time"), kind, value});
        if (log.size() > 30) log.remove(0);
    }

    private boolean tick(int motions) {
        int tension = get("tension");
        put("time", get("time") + 1);
        if (get("bypass") > 0) put("bypass", get("bypass") - 1);
        List<Integer> blocked = new ArrayList<>();
        for (int motion = 0; motion < 8; motion++) {
            if ((motions >> motion) % 2 == 0) continue;
            if (isPermitted(motion)) {
                move(motion);
            } else {
                blocked.add(motion);
                if (!blockedBefore.contains(motion)) logEvent(0, motion);
            }
        }
        blockedBefore = blocked;
        int u = present();
        int was = get("state");
        int is;
        if (get("bypass") > 0) is = 3;
        else if (u >= 1000 || was == 2 && u >= 950) is = 2;
        else if (u >= 900 || (was == 1 || was == 2) && u >= 850) is = 1;
        else is = 0;
        put("state", is);
        if (is != was) {
            logEvent(1, is);
            if (is == 2) logEvent(2, u);
        }
        stateTime[is]++;
        if (tension < 4 && get("tension") == 4 && lift == null) lift = 0;
        if (lift != null) {
            lift = Math.max(lift, u);
            if (get("tension") == 0) {
                int liftClass = Math.min(7, lift / 125);
                lifts[liftClass]++;
                logEvent(3, liftClass);
                lift = null;
            }
        }
        return blocked.isEmpty();
    }

    // The face

    public int setOutrigger(int outrigger, int extension) {
        requireIndex(in(outrigger, 0, 3));
        argument(in(extension, 0, 2));
        undoable();
        return outriggers.set(outrigger, extension);
    }

    public boolean setOnWheels(boolean wheels) {
        undoable();
        return put("wheels", wheels ? 1 : 0) == 1;
    }

    public int setCapacity(int t, int row, int column, int mass) {
        requireIndex(in(t, 0, 3) && in(row, 0, 3) && in(column, 0, 5));
        argument(in(mass, 0, 100000));
        undoable();
        int before = table[t][row][column];
        table[t][row][column] = mass;
        return before;
    }

    public int fillTable(int t, int moment) {
        requireIndex(in(t, 0, 3));
        argument(in(moment, 0, 1000000));
        undoable();
        for (int i = 0; i < 4; i++) {
            for (int j = 0; j < 6; j++) {
                long m = Math.min(100000, Math.floorDiv(1000L * moment, (long) COLUMN[j]));
                table[t][i][j] = (int) Math.floorDiv(m * (10 - i), 10L);
            }
        }
        return sum(t);
    }

    private int sum(int t) {
        return Arrays.stream(table[t]).flatMapToInt(Arrays::stream).sum();
    }

    public int capacity(int t, int row, int column) {
        requireIndex(in(t, 0, 3) && in(row, 0, 3) && in(column, 0, 5));
        return table[t][row][column];
    }

    public int addZone(int from, int to, int radius, int height) {
        argument(in(from, 0, 3599) && in(to, 0, 3599) && in(radius, 0, 10000) && in(height, 0, 10000));
        state(zones.size() < 6);
        undoable();
        zones.add(new int[] {from, to, radius, height});
        return zones.size();
    }

    public int removeZone(int index) {
        requireIndex(in(index, 0, zones.size() - 1));
        undoable();
        zones.remove(index);
        return zones.size();
    }

    private static boolean isPosition(int length, int angle, int slew) {
        return in(length, 1000, 6000) && in(angle, 0, 850) && in(slew, 0, 3599);
    }

    public int setBoom(int length, int angle, int slew) {
        argument(isPosition(length, angle, slew));
        state(get("tension") == 0);
        undoable();
        put("L", length);
        put("A", angle);
        put("S", slew);
        put("height", 0);
        return violation();
    }

    public int wind(int speed) {
        argument(in(speed, 0, 1000));
        undoable();
        samples.add(speed);
        return windNow();
    }

    public int attach(int mass) {
        argument(in(mass, 0, 100000));
        state(get("tension") == 0 && get("height") == 0);
        undoable();
        return put("mass", mass);
    }

    public int setTare(int mass) {
        argument(in(mass, 0, 2000));
        undoable();
        return put("tare", mass);
    }

    public int bypass(int ticks) {
        argument(in(ticks, 0, 1000));
        undoable();
        return put("bypass", ticks);
    }

    public int run(int motions, int ticks) {
        argument(in(motions, 0, 255) && in(ticks, 1, 100));
        for (int pair : new int[] {1 + 2, 4 + 8, 16 + 32, 64 + 128}) {
            argument((motions & pair) != pair);
        }
        undoable();
        int free = 0;
        for (int i = 0; i < ticks; i++) {
            if (tick(motions)) free++;
        }
        return free;
    }

    public int permitted() {
        int mask = 0;
        for (int motion = 7; motion >= 0; motion--) {
            mask = 2 * mask + (isPermitted(motion) ? 1 : 0);
        }
        return mask;
    }

    public int predicted(int motion) {
        argument(in(motion, 0, 7));
        CraneModel after = copy();
        after.move(motion);
        return after.present();
    }

    public int boom(int what) {
        argument(in(what, 0, 11));
        return switch (what) {
            case 3 -> (int) r0(get("L"), get("A"));
            case 4 -> (int) h(get("L"), get("A"));
            case 8 -> (int) p();
            case 9 -> violation();
            default -> get(List.of("L", "A", "S", "", "", "height", "tension", "mass", "", "", "time", "bypass").get(what));
        };
    }

    public int limiter(int what) {
        argument(in(what, 0, 7));
        long[] m = measured();
        return switch (what) {
            case 0 -> (int) m[0];
            case 1 -> (int) m[1];
            case 2 -> (int) m[2];
            case 3 -> tableAt(get("S"));
            case 4 -> windNow();
            case 5 -> (int) ratedFor(get("L"), m[1], get("S"));
            case 6 -> present();
            default -> get("state");
        };
    }

    public int rated(int length, int angle, int slew) {
        argument(isPosition(length, angle, slew));
        return (int) ratedFor(length, r0(length, angle), slew);
    }

    public int maxRadius(int mass) {
        argument(in(mass, 1, 100000));
        int found = -1;
        for (int radius = 300; radius <= 3000; radius++) {
            if (ratedFor(get("L"), radius, get("S")) >= mass) found = radius;
        }
        return found;
    }

    public int worstSlew(int from, int to, int what) {
        argument(in(from, 0, 3599) && in(to, 0, 3599) && in(what, 0, 1));
        int worst = -1;
        int first = -1;
        for (int i = 0; i < 3600; i++) {
            int s = (from + i) % 3600;
            if (i % 50 == 0 && utilization(s) > worst) {
                worst = utilization(s);
                first = s;
            }
            if (s == to) break;
        }
        return what == 0 ? worst : first;
    }

    public int events() {
        return log.size();
    }

    public int event(int index, int what) {
        requireIndex(in(index, 0, log.size() - 1));
        argument(in(what, 0, 2));
        return log.get(index)[what];
    }

    public int stateTime(int state) {
        argument(in(state, 0, 3));
        return stateTime[state];
    }

    public int lifts(int liftClass) {
        argument(in(liftClass, 0, 7));
        return lifts[liftClass];
    }

    public int spectrum() {
        long above = 0, n = 0;
        for (int i = 0; i < 8; i++) {
            n += lifts[i];
            above += lifts[i] * (long) Math.pow(i + 1, 3);
        }
        return n == 0 ? -1 : (int) Math.floorDiv(1000 * above, 512 * n);
    }

    public int type(int value) {
        argument(in(value, 0, 127));
        state(text.length() < 80);
        text.append((char) value);
        return text.length();
    }

    public int clearText() {
        int before = text.length();
        text.setLength(0);
        return before;
    }

    /** The number of signs at the front of the text that begin some script without a fault. */
    private int sound() {
        for (int i = 1; i <= text.length(); i++) {
            Matcher m = SCRIPT.matcher(text.substring(0, i));
            if (!m.matches() && !m.hitEnd()) return i - 1;
        }
        return text.length();
    }

    public int runScript() {
        if (!SCRIPT.matcher(text).matches()) return -10 - sound();
        undoable();
        int passed = 0;
        Matcher order = ORDER.matcher(text);
        while (order.find()) {
            int ticks = Integer.parseInt(order.group(4));
            int motions = 0;
            if (order.group(3) == null) {
                motions = 1 << List.of("h+", "h-", "b+", "b-", "e+", "e-", "s+", "s-")
                        .indexOf(order.group(1) + order.group(2));
            }
            for (int i = 0; i < ticks; i++) {
                tick(motions);
                passed++;
            }
        }
        return passed;
    }

    public int undo() {
        state(!stack.isEmpty());
        take(stack.pop());
        return stack.size();
    }

    public long digest() {
        List<Integer> v = new ArrayList<>(List.of(stack.size(), text.length()));
        for (int what = 0; what <= 11; what++) v.add(boom(what));
        for (int what = 0; what <= 7; what++) v.add(limiter(what));
        v.add(permitted());
        v.add(get("tare"));
        v.addAll(outriggers);
        v.add(get("wheels"));
        for (int t = 0; t < 4; t++) v.add(sum(t));
        v.add(zones.size());
        for (int[] z : zones) {
            for (int part : z) v.add(part);
        }
        v.add(events());
        for (int[] e : log) {
            for (int part : e) v.add(part);
        }
        for (int time : stateTime) v.add(time);
        for (int n : lifts) v.add(n);
        long h = 19763;
        for (int value : v) h = 31 * h + value;
        return h;
    }
}
