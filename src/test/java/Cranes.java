import java.math.BigInteger;
import java.util.ArrayList;
import java.util.List;
import java.util.function.Consumer;
import java.util.function.Supplier;
import java.util.function.ToLongFunction;

/** Cranes in the states that tests begin with, and comparisons of two cranes by all that they answer. */
final class Cranes {
    static final int BIG = Integer.MAX_VALUE, SMALL = Integer.MIN_VALUE;

    private Cranes() {
    }

    // Cranes

    /** A crane with full tables, so that nothing stands in the way of its motions. */
    static CraneLimiter strong() {
        CraneLimiter c = new CraneLimiter();
        for (int table = 0; table < 4; table++) {
            c.fillTable(table, 1000000);
        }
        return c;
    }

    static CraneLimiter at(int length, int angle, int slew) {
        CraneLimiter c = strong();
        c.setBoom(length, angle, slew);
        return c;
    }

    /** A crane with a load on a tight rope. */
    static CraneLimiter holding(int length, int angle, int slew, int mass) {
        CraneLimiter c = at(length, angle, slew);
        c.attach(mass);
        c.run(1, 4);
        return c;
    }

    /** A crane with 5000 kg on the rope at the first position. */
    static CraneLimiter lifting() {
        return holding(1500, 600, 0, 5000);
    }

    /** A crane without the bypass in the given state; lifting, but for BYPASSED, where the bypass time is 1000. */
    static CraneLimiter in(int state) {
        // 5000 kg and these capacities make utilizations of 50, 900 and 1000.
        int[] capacities = {100000, 5555, 5000, 100000};
        CraneLimiter c = lifting();
        c.run(1, 2);
        if (state == CraneLimiter.BYPASSED) {
            c.bypass(1000);
        }
        tickAt(c, capacities[state]);
        return c;
    }

    /** Makes the rated capacity of the first position, and of those near it, one and the same. */
    static void level(CraneLimiter c, int mass) {
        levelTable(c, 2, mass);
    }

    static void levelTable(CraneLimiter c, int table, int mass) {
        for (int row = 0; row < 2; row++) {
            for (int column = 0; column < 3; column++) {
                c.setCapacity(table, row, column, mass);
            }
        }
    }

    /** A tick in which the present utilization comes to that of the load and a capacity; answers the state. */
    static int tickAt(CraneLimiter c, int mass) {
        level(c, mass);
        c.run(0, 1);
        return c.limiter(7);
    }

    static CraneLimiter text(CraneLimiter c, String signs) {
        c.clearText();
        for (int i = 0; i < signs.length(); i++) {
            c.type(signs.charAt(i));
        }
        return c;
    }

    static CraneLimiter withText(String signs) {
        return text(new CraneLimiter(), signs);
    }

    static CraneLimiter withZones(int count) {
        CraneLimiter c = new CraneLimiter();
        for (int i = 0; i < count; i++) {
            c.addZone(10 * i, 3000, 500 + i, 1500 - i);
        }
        return c;
    }

    static CraneLimiter withEvents(int count) {
        CraneLimiter c = new CraneLimiter();
        for (int i = 0; i < count; i++) {
            // One event: a hook on the ground goes no lower. The tick without motions lets the next one be logged.
            c.run(2, 1);
            c.run(0, 1);
        }
        return c;
    }

    /** A crane with tables that fall with the length and the radius, and with outriggers that are not alike. */
    static CraneLimiter busyTables() {
        CraneLimiter c = new CraneLimiter();
        for (int table = 0; table < 4; table++) {
            c.fillTable(table, 9000 + 500 * table);
        }
        c.setCapacity(0, 3, 5, 77);
        c.setCapacity(1, 2, 3, 78);
        c.setOutrigger(1, 0);
        c.setOutrigger(2, 1);
        return c;
    }

    /**
     * A crane with something of everything: a load in the air, a lift in progress whose greatest utilization is past,
     * a lift that has ended, a bypass time, zones, wind samples, events, a motion that was blocked in the latest
     * tick, a text, and a full undo stack.
     */
    static CraneLimiter busy() {
        CraneLimiter c = busyTables();
        c.addZone(3000, 600, 3000, 1604);
        c.addZone(700, 900, 500, 800);
        c.wind(70);
        c.wind(130);
        c.wind(40);
        c.wind(20);
        c.setTare(300);
        c.attach(5000);
        c.run(1, 4);
        c.run(2, 5);
        c.attach(13500);
        text(c, "h-1;s");
        c.run(1, 4);
        c.run(0, 2);
        c.bypass(50);
        c.run(4, 26);
        return c;
    }

    // All that a crane answers

    private static long answer(ToLongFunction<CraneLimiter> call, CraneLimiter c) {
        try {
            return call.applyAsLong(c);
        } catch (IndexOutOfBoundsException e) {
            return -1000001;
        } catch (IllegalArgumentException e) {
            return -1000002;
        } catch (IllegalStateException e) {
            return -1000003;
        }
    }

    /** What a crane answers now, and in calls that show what no answer tells at once; the crane is used up. */
    static List<Long> present(CraneLimiter c) {
        List<Long> answers = new ArrayList<>();
        answers.add(c.digest());
        for (int place = 0; place < 96; place++) {
            answers.add((long) c.capacity(place / 24, place / 6 % 4, place % 6));
        }
        for (int motion = 0; motion < 8; motion++) {
            answers.add((long) c.predicted(motion));
        }
        answers.add((long) c.spectrum());
        answers.add((long) c.maxRadius(1000));
        answers.add((long) c.worstSlew(0, 3599, 0));
        answers.add((long) c.worstSlew(0, 3599, 1));
        // What was blocked in the latest tick, and the lift in progress.
        for (int motions : new int[] {1 + 4 + 16 + 64, 2 + 8 + 32 + 128}) {
            answers.add((long) c.run(motions, 1));
            answers.add(c.digest());
            c.undo();
        }
        answers.add((long) c.run(2, 100));
        answers.add(c.digest());
        c.undo();
        answers.add((long) c.runScript());
        answers.add(answer(x -> x.type('+'), c));
        answers.add(answer(x -> x.type('1'), c));
        answers.add(answer(x -> x.type(';'), c));
        answers.add((long) c.runScript());
        answers.add(c.digest());
        for (int i = 0; i < 4; i++) {
            answers.add((long) c.wind(0));
        }
        answers.add(c.digest());
        return answers;
    }

    /** What a crane answers as it goes down its undo stack; the crane is used up. */
    static List<Long> past(CraneLimiter c) {
        List<Long> answers = new ArrayList<>();
        for (int i = 0; i < 6; i++) {
            answers.add(answer(x -> x.undo(), c));
            answers.add(c.digest());
            answers.add((long) c.run(2 + 4, 1));
            answers.add(c.digest());
            c.undo();
        }
        answers.add((long) c.clearText());
        return answers;
    }

    private static void same(String what, List<Long> got, List<Long> want) {
        int differences = 0;
        for (int i = 0; i < want.size(); i++) {
            differences += got.get(i).equals(want.get(i)) ? 0 : 1;
        }
        Check.due(what + ": other answers than those of its twin", differences, 0);
    }

    /**
     * The digest with numbers of any length, from the answers of the other calls and from what no call answers:
     * hidden are the saved states, the length of the text and the tare.
     */
    static long digest(CraneLimiter c, int[] hidden, int[] outriggers, int wheels, int[] zones) {
        List<Integer> values = new ArrayList<>(List.of(hidden[0], hidden[1]));
        for (int what = 0; what <= 11; what++) {
            values.add(c.boom(what));
        }
        for (int what = 0; what <= 7; what++) {
            values.add(c.limiter(what));
        }
        values.add(c.permitted());
        values.add(hidden[2]);
        for (int extension : outriggers) {
            values.add(extension);
        }
        values.add(wheels);
        for (int table = 0; table < 4; table++) {
            int sum = 0;
            for (int place = 0; place < 24; place++) {
                sum += c.capacity(table, place / 6, place % 6);
            }
            values.add(sum);
        }
        values.add(zones.length / 4);
        for (int value : zones) {
            values.add(value);
        }
        values.add(c.events());
        for (int i = 0; i < c.events(); i++) {
            for (int what = 0; what < 3; what++) {
                values.add(c.event(i, what));
            }
        }
        for (int state = 0; state < 4; state++) {
            values.add(c.stateTime(state));
        }
        for (int i = 0; i < 8; i++) {
            values.add(c.lifts(i));
        }
        BigInteger h = BigInteger.valueOf(19763);
        for (int value : values) {
            h = h.multiply(BigInteger.valueOf(31)).add(BigInteger.valueOf(value));
        }
        return h.longValue();
    }

    // Calls that change nothing, and such as can be undone

    /** A call that must throw just this exception, and leave the crane as its twin is that was spared the call. */
    static void refused(String what, Class<? extends RuntimeException> due, Supplier<CraneLimiter> make,
            Consumer<CraneLimiter> call) {
        CraneLimiter touched = make.get();
        Check.thrown(what, due, () -> call.accept(touched));
        same(what + ", then", present(touched), present(make.get()));
        CraneLimiter second = make.get();
        Check.thrown(what, due, () -> call.accept(second));
        same(what + ", then back", past(second), past(make.get()));
    }

    static void index(String what, Supplier<CraneLimiter> make, Consumer<CraneLimiter> call) {
        refused(what, IndexOutOfBoundsException.class, make, call);
    }

    static void argument(String what, Supplier<CraneLimiter> make, Consumer<CraneLimiter> call) {
        refused(what, IllegalArgumentException.class, make, call);
    }

    static void state(String what, Supplier<CraneLimiter> make, Consumer<CraneLimiter> call) {
        refused(what, IllegalStateException.class, make, call);
    }

    /** A call that ends normally and changes nothing, the undo stack included. */
    static void question(String what, Consumer<CraneLimiter> call) {
        CraneLimiter asked = busy();
        call.accept(asked);
        same(what + ", then", present(asked), present(busy()));
        CraneLimiter second = busy();
        call.accept(second);
        same(what + ", then back", past(second), past(busy()));
    }

    /** A call that saves one state, the one from before it, also on a stack that is full. */
    static void undoable(String what, Supplier<CraneLimiter> make, Consumer<CraneLimiter> call) {
        int[] after = new int[2];
        List<List<Long>> answers = new ArrayList<>();
        for (int i = 0; i < 4; i++) {
            CraneLimiter c = make.get();
            if (i % 2 == 0) {
                call.accept(c);
            } else {
                // This changes nothing but the stack.
                c.setOnWheels(false);
            }
            after[i % 2] = c.undo();
            answers.add(i < 2 ? present(c) : past(c));
        }
        Check.due("states left after the undo of " + what, after[0], after[1]);
        same("undo of " + what, answers.get(0), answers.get(1));
        same("undo of " + what + ", then back", answers.get(2), answers.get(3));
    }

    // Arguments

    /** The values next to a range, and those farthest from it. */
    static int[] beyond(int least, int greatest) {
        return new int[] {least - 1, greatest + 1, BIG, SMALL};
    }
}
