import java.lang.reflect.InvocationTargetException;
import java.lang.reflect.Method;
import java.util.ArrayList;
import java.util.Arrays;
import java.util.HashMap;
import java.util.List;
import java.util.Map;
import java.util.Random;
import java.util.TreeMap;

/** Random runs of calls on the program and on CraneModel, which must give the same answers. */
public final class ModelTest {
    private static final int RUNS = 1500;
    /** An object is used for at most 512 calls, and a digest may stand behind each of these. */
    private static final int CALLS = 256;
    private static final Map<String, Method> PROGRAM = methodsOf(CraneLimiter.class);
    private static final Map<String, Method> MODEL = methodsOf(CraneModel.class);
    private static final String[] NAMES = PROGRAM.keySet().toArray(new String[0]);
    private static final Map<String, Integer> SEEN = new HashMap<>();

    private final Random random;
    private final CraneLimiter program = new CraneLimiter();
    private final CraneModel model = new CraneModel();
    private final List<String> calls = new ArrayList<>();
    /** What the next calls are, before new ones are drawn. */
    private final List<Object[]> planned = new ArrayList<>();

    private ModelTest(long seed) {
        random = new Random(seed);
    }

    public static void main(String[] args) {
        int wrong = 0;
        for (int seed = 1; seed <= RUNS && wrong < 5; seed++) {
            if (!new ModelTest(seed).isSame()) {
                wrong++;
            }
        }
        Check.due("random runs with other answers", wrong, 0);
        requireSeen();
        Check.finish("ModelTest");
    }

    /** Without these the runs would have looked at too little. */
    private static void requireSeen() {
        for (String name : NAMES) {
            Check.holds(name + " has answered", SEEN.containsKey(name));
            for (Class<?> thrown : PROGRAM.get(name).getExceptionTypes()) {
                Check.holds(name + " has thrown " + thrown.getName(), SEEN.containsKey(name + thrown.getName()));
            }
        }
        for (int i = 0; i < 4; i++) {
            Check.holds("there were ticks in state " + i, SEEN.containsKey("state" + i));
            Check.holds("there were events of kind " + i, SEEN.containsKey("kind" + i));
            for (int j = 0; j < 4; j++) {
                boolean changed = i == j || SEEN.containsKey("state" + i + "to" + j);
                Check.holds("the state went from " + i + " to " + j, changed);
            }
        }
        for (int i = 0; i < 8; i++) {
            Check.holds("there were lifts of class " + i, SEEN.containsKey("lift" + i));
            Check.holds("motion " + i + " was blocked", SEEN.containsKey("blocked" + i));
        }
        Check.holds("the log was full", SEEN.containsKey("full log"));
        Check.holds("a script had several orders", SEEN.containsKey("script"));
        Check.holds("a zone was violated", SEEN.containsKey("violation"));
    }

    private static Map<String, Method> methodsOf(Class<?> c) {
        Map<String, Method> methods = new TreeMap<>();
        for (Method m : c.getDeclaredMethods()) {
            if (java.lang.reflect.Modifier.isPublic(m.getModifiers())) {
                methods.put(m.getName(), m);
            }
        }
        return methods;
    }

    private boolean isSame() {
        for (int i = 0; i < CALLS; i++) {
            if (planned.isEmpty()) {
                plan(i);
            }
            Object[] call = planned.remove(0);
            String name = (String) call[0];
            Object[] arguments = Arrays.copyOfRange(call, 1, call.length);
            int stateBefore = model.limiter(7);
            String due = answer(MODEL.get(name), model, arguments);
            String got = answer(PROGRAM.get(name), program, arguments);
            calls.add(name + Arrays.toString(arguments) + " = " + got);
            note(name, got, stateBefore);
            // The digest is not asked each time, so that it can't set right what a call left wrong.
            boolean asked = random.nextInt(3) == 0 || i == CALLS - 1;
            long dueDigest = asked ? model.digest() : 0;
            long gotDigest = asked ? program.digest() : 0;
            if (!due.equals(got) || dueDigest != gotDigest) {
                calls.forEach(System.out::println);
                System.out.println("due is " + due + ", digest " + gotDigest + ", due is " + dueDigest);
                return false;
            }
        }
        return true;
    }

    private static String answer(Method method, Object crane, Object[] arguments) {
        try {
            return String.valueOf(method.invoke(crane, arguments));
        } catch (InvocationTargetException e) {
            return "throws." + e.getCause().getClass().getName();
        } catch (IllegalAccessException e) {
            throw new IllegalStateException(e);
        }
    }

    private void note(String name, String got, int stateBefore) {
        SEEN.put(got.startsWith("throws.") ? name + got.substring(7) : name, 1);
        int state = model.limiter(7);
        SEEN.put("state" + state, 1);
        if (name.equals("run")) {
            SEEN.put("state" + stateBefore + "to" + state, 1);
        }
        int events = model.events();
        for (int i = 0; i < events; i++) {
            int kind = model.event(i, 1);
            SEEN.put("kind" + kind, 1);
            if (kind == 0) {
                SEEN.put("blocked" + model.event(i, 2), 1);
            }
            if (kind == 3) {
                SEEN.put("lift" + model.event(i, 2), 1);
            }
        }
        if (events == 30) {
            SEEN.put("full log", 1);
        }
        if (name.equals("runScript") && !got.startsWith("-") && Integer.parseInt(got) > 99) {
            SEEN.put("script", 1);
        }
        if (model.boom(9) > 0) {
            SEEN.put("violation", 1);
        }
    }

    // What is called

    private void plan(int calls) {
        if (calls == 0 && random.nextInt(8) > 0) {
            for (int table = 0; table < 4; table++) {
                add("fillTable", table, 500 + random.nextInt(12000));
            }
            add("setOutrigger", random.nextInt(4), random.nextInt(3));
        }
        switch (random.nextInt(14)) {
            case 0: planScript(); break;
            case 1: planLift(); break;
            case 2: planRuns(); break;
            case 3: planFill(); break;
            case 4: planRuns(); break;
            case 5: planQuestions(); break;
            case 6: planUndo(); break;
            case 7: planZones(); break;
            default: planAny(); break;
        }
    }

    private void add(Object... call) {
        planned.add(call);
    }

    private int choose(int... values) {
        return values[random.nextInt(values.length)];
    }

    private void planLift() {
        if (random.nextBoolean()) {
            int length = 1000 + random.nextInt(3000);
            add("run", 2, 20);
            add("setBoom", length, random.nextInt(851), random.nextInt(3600));
        }
        add("attach", 1 + random.nextInt(choose(200, 3000, 9000, 20000)));
        add("run", 1, 4);
        planRuns();
        add("run", 2, choose(4, 8, 20, 100));
    }

    private void planRuns() {
        int n = 1 + random.nextInt(6);
        for (int i = 0; i < n; i++) {
            add("run", motions(), choose(1, 1, 2, 3, 5, 10, 20, 100));
        }
    }

    private int motions() {
        int mask = 0;
        for (int pair = 0; pair < 4; pair++) {
            mask |= choose(0, 0, 1, 2) << 2 * pair;
        }
        return mask;
    }

    /** Fills the tables so that the present load comes to one of the limits of the states. */
    private void planFill() {
        int load = Math.max(1, model.limiter(2));
        int limit = choose(850, 900, 950, 1000) + choose(-1, 0, 1);
        int mass = Math.min(100000, 1000 * load / limit + choose(0, 1));
        int table = model.limiter(3);
        if (random.nextBoolean()) {
            add("fillTable", table, Math.min(1000000, mass * Math.max(1, model.limiter(1) / 900)));
            return;
        }
        for (int row = 0; row < 4; row++) {
            for (int column = 0; column < 6; column++) {
                add("setCapacity", table, row, column, mass);
            }
        }
        add("run", motions(), 1);
        add("run", 0, 1);
    }

    private void planQuestions() {
        int load = Math.max(1, model.limiter(2));
        add("maxRadius", load);
        add("permitted");
        for (int motion = 0; motion < 8; motion++) {
            add("predicted", motion);
        }
        add("worstSlew", random.nextInt(3600), random.nextInt(3600), random.nextInt(2));
    }

    private void planUndo() {
        int n = 1 + random.nextInt(6);
        for (int i = 0; i < n; i++) {
            add("undo");
        }
        planRuns();
    }

    private void planZones() {
        int n = choose(1, 1, 2, 7);
        for (int i = 0; i < n; i++) {
            add("addZone", random.nextInt(3600), random.nextInt(3600), random.nextInt(6000), random.nextInt(6000));
        }
        planRuns();
        for (int i = 0; i < n; i++) {
            add("removeZone", random.nextInt(1 + i));
        }
    }

    private void planScript() {
        StringBuilder text = new StringBuilder();
        int orders = random.nextInt(5);
        for (int i = 0; i < orders; i++) {
            blanks(text).append("hbesw".charAt(random.nextInt(5)));
            if (text.charAt(text.length() - 1) != 'w') {
                blanks(text).append("+-".charAt(random.nextInt(2)));
            }
            blanks(text).append(choose(1, 4, 9, 10, 50, 99));
            blanks(text).append(';');
        }
        blanks(text);
        if (text.length() > 0 && random.nextInt(3) == 0) {
            int at = random.nextInt(text.length());
            text.setCharAt(at, " 0019;;+-hw\n:/,".charAt(random.nextInt(15)));
        }
        if (text.length() > 0 && random.nextInt(6) == 0) {
            text.setLength(random.nextInt(text.length()));
        }
        add("clearText");
        for (int i = 0; i < text.length(); i++) {
            add("type", (int) text.charAt(i));
        }
        add("runScript");
    }

    private StringBuilder blanks(StringBuilder text) {
        while (random.nextInt(4) == 0) {
            text.append(' ');
        }
        return text;
    }

    private void planAny() {
        String name = NAMES[random.nextInt(NAMES.length)];
        Class<?>[] types = PROGRAM.get(name).getParameterTypes();
        Object[] call = new Object[types.length + 1];
        call[0] = name;
        for (int i = 0; i < types.length; i++) {
            call[i + 1] = types[i] == boolean.class ? (Object) random.nextBoolean() : (Object) argument(name, i);
        }
        add(call);
        if (name.equals("type") && random.nextInt(4) == 0) {
            for (int i = 0; i < 81; i++) {
                add("type", random.nextInt(3) == 0 ? random.nextInt(128) : ' ');
            }
            add("runScript");
        }
    }

    private int argument(String name, int i) {
        switch (random.nextInt(14)) {
            case 0: return choose(-1, Integer.MIN_VALUE, Integer.MAX_VALUE);
            case 1: return choose(1000, 6001, 851, 3599, 3600, 10000, 10001, 100000, 100001, 1000000, 1000001, 127, 128);
            default: break;
        }
        switch (name + i) {
            case "rated0": case "setBoom0": return 1000 + random.nextInt(choose(1, 1000, 5001));
            case "rated1": case "setBoom1": return random.nextInt(851);
            case "rated2": case "setBoom2": case "worstSlew0": case "worstSlew1": case "addZone0": case "addZone1":
                return random.nextInt(3600);
            case "addZone2": case "addZone3": return choose(0, 500, random.nextInt(3000), random.nextInt(10001));
            case "setCapacity3": case "attach0": case "maxRadius0": return random.nextInt(choose(1, 2000, 30000, 100001));
            case "fillTable1": return random.nextInt(choose(1, 20000, 1000001));
            case "wind0": return random.nextInt(choose(90, 300, 1001));
            case "setTare0": return random.nextInt(2001);
            case "bypass0": return random.nextInt(choose(2, 20, 1001));
            case "run0": return random.nextInt(4) == 0 ? random.nextInt(257) : motions();
            case "run1": return random.nextInt(102);
            case "type0": return random.nextInt(129);
            case "event0": return random.nextInt(32);
            default: return random.nextInt(13);
        }
    }
}
