import java.util.function.Consumer;

/** The promises of the document one by one: ordinary calls, the edges it names, and wrong arguments. */
public final class PromiseTest {
    private static final int BIG = Integer.MAX_VALUE, SMALL = Integer.MIN_VALUE;
    private static final int[] RADII = {300, 600, 1000, 1500, 2200, 3000};

    public static void main(String[] args) {
        promise1();
        promise2();
        promise3();
        promise4();
        promise5();
        promise6();
        promise7();
        promise8();
        promise9();
        promise10();
        promise11();
        promise12();
        promise13();
        promise14();
        promise14States();
        promise14Lifts();
        promise14Log();
        promise15();
        promise15Slewing();
        promise16();
        promise17();
        promise18();
        promise19();
        promise20();
        promise21();
        promise22();
        promise23();
        promise24();
        promise25();
        promise26();
        promise27();
        promise28();
        promise29();
        promise29Faults();
        promise30();
        promise31();
        Check.finish("PromiseTest");
    }

    // Helpers

    private static void undoable(String what, Consumer<CraneLimiter> call) {
        CraneLimiter c = new CraneLimiter();
        c.addZone(0, 100, 9000, 9000);
        c.fillTable(2, 5000);
        long before = c.digest();
        call.accept(c);
        Check.due("undo of " + what, c.undo(), 2);
        Check.due("digest after the undo of " + what, c.digest(), before);
    }

    private static void notUndoable(String what, Consumer<CraneLimiter> call) {
        CraneLimiter c = new CraneLimiter();
        call.accept(c);
        Check.noState("undo of " + what, c, () -> c.undo());
    }

    private static void event(String what, CraneLimiter c, int index, int time, int kind, int value) {
        Check.due(what + ": time of event " + index, c.event(index, 0), time);
        Check.due(what + ": kind of event " + index, c.event(index, 1), kind);
        Check.due(what + ": value of event " + index, c.event(index, 2), value);
    }

    // The promises

    private static void promise1() {
        CraneLimiter c = new CraneLimiter();
        int[] boom = {1500, 600, 0, 600, 1549, 0, 0, 0, 1200, 0, 0, 0};
        for (int what = 0; what < boom.length; what++) {
            Check.due("new boom(" + what + ")", c.boom(what), boom[what]);
        }
        int[] limiter = {200, 600, 0, 2, 0, 0, 0, 0};
        for (int what = 0; what < limiter.length; what++) {
            Check.due("new limiter(" + what + ")", c.limiter(what), limiter[what]);
        }
        for (int table = 0; table < 4; table++) {
            for (int place = 0; place < 24; place++) {
                Check.due("new capacity", c.capacity(table, place / 6, place % 6), 0);
            }
        }
        for (int i = 0; i < 8; i++) {
            Check.due("new lifts", c.lifts(i), 0);
            Check.due("new stateTime", c.stateTime(i / 2), 0);
        }
        Check.due("new permitted", c.permitted(), 253);
        Check.due("new events", c.events(), 0);
        Check.due("new spectrum", c.spectrum(), CraneLimiter.NONE);
        Check.due("new clearText", c.clearText(), 0);
        Check.noState("new undo", c, () -> c.undo());
        Check.noIndex("new removeZone", c, () -> c.removeZone(0));
        CraneLimiter other = new CraneLimiter();
        other.fillTable(2, 9000);
        other.setOutrigger(0, 0);
        Check.due("objects are apart", c.digest(), new CraneLimiter().digest());
    }

    private static void promise2() {
        CraneLimiter c = new CraneLimiter();
        Check.due("setOutrigger(0, 1)", c.setOutrigger(0, 1), 2);
        Check.due("setOutrigger(0, 0)", c.setOutrigger(0, 0), 1);
        Check.due("setOutrigger(0, 2)", c.setOutrigger(0, 2), 0);
        for (int k = 0; k < 4; k++) {
            int outrigger = k;
            CraneLimiter d = new CraneLimiter();
            d.setOutrigger(outrigger, 1);
            int[] near = {451 + 900 * k + 2700, 450 + 900 * k, 450 + 900 * k + 899};
            for (int slew : near) {
                d.setBoom(1500, 600, slew % 3600);
                Check.due("outrigger " + k + " at " + slew, d.limiter(3), 1);
            }
            for (int far = 900; far <= 2700; far += 900) {
                d.setBoom(1500, 600, (450 + 900 * k + far) % 3600);
                Check.due("outrigger " + k + " far at " + far, d.limiter(3), 2);
            }
        }
        for (int wrong : new int[] {-1, 4, BIG, SMALL}) {
            Check.noIndex("setOutrigger", c, () -> c.setOutrigger(wrong, 1));
            Check.noIndex("setOutrigger, both wrong", c, () -> c.setOutrigger(wrong, 3));
        }
        for (int wrong : new int[] {-1, 3, BIG, SMALL}) {
            Check.noArgument("setOutrigger", c, () -> c.setOutrigger(3, wrong));
        }
        undoable("setOutrigger", x -> x.setOutrigger(3, 0));
        undoable("setOutrigger with no change", x -> x.setOutrigger(3, 2));
    }

    private static void promise3() {
        CraneLimiter c = new CraneLimiter();
        c.setOutrigger(0, 0);
        Check.due("outriggers count", c.limiter(3), 0);
        Check.holds("not on wheels at first", !c.setOnWheels(true));
        Check.due("on wheels", c.limiter(3), 3);
        Check.holds("on wheels before", c.setOnWheels(true));
        Check.holds("on wheels before", c.setOnWheels(false));
        Check.holds("not on wheels before", !c.setOnWheels(false));
        Check.due("off the wheels", c.limiter(3), 0);
        undoable("setOnWheels", x -> x.setOnWheels(true));
        undoable("setOnWheels with no change", x -> x.setOnWheels(false));
    }

    private static void promise4() {
        CraneLimiter c = new CraneLimiter();
        for (int table = 0; table < 4; table++) {
            for (int place = 0; place < 24; place++) {
                int mass = 1000 * table + place + 1;
                Check.due("setCapacity", c.setCapacity(table, place / 6, place % 6, mass), 0);
            }
        }
        for (int table = 0; table < 4; table++) {
            for (int place = 0; place < 24; place++) {
                int mass = 1000 * table + place + 1;
                Check.due("capacity after setCapacity", c.capacity(table, place / 6, place % 6), mass);
            }
        }
        Check.due("setCapacity at most", c.setCapacity(3, 3, 5, 100000), 3024);
        Check.due("setCapacity at least", c.setCapacity(3, 3, 5, 0), 100000);
        int[][] places = {{-1, 0, 0}, {4, 0, 0}, {0, -1, 0}, {0, 4, 0}, {0, 0, -1}, {0, 0, 6}, {BIG, BIG, BIG},
            {SMALL, 0, 0}, {0, SMALL, 0}, {0, 0, SMALL}};
        for (int[] p : places) {
            Check.noIndex("setCapacity", c, () -> c.setCapacity(p[0], p[1], p[2], 5));
            Check.noIndex("setCapacity, both wrong", c, () -> c.setCapacity(p[0], p[1], p[2], -1));
        }
        for (int wrong : new int[] {-1, 100001, BIG, SMALL}) {
            Check.noArgument("setCapacity", c, () -> c.setCapacity(0, 0, 0, wrong));
        }
        undoable("setCapacity", x -> x.setCapacity(1, 2, 3, 4));
        undoable("setCapacity with no change", x -> x.setCapacity(1, 2, 3, 0));
    }

    private static void promise5() {
        CraneLimiter c = new CraneLimiter();
        Check.due("fillTable(1, 8000)", c.fillTable(1, 8000), 202749);
        int[] first = {26666, 13333, 8000, 5333, 3636, 2666};
        int[] second = {23999, 11999, 7200, 4799, 3272, 2399};
        int[] fourth = {18666, 9333, 5600, 3733, 2545, 1866};
        for (int column = 0; column < 6; column++) {
            Check.due("row 0", c.capacity(1, 0, column), first[column]);
            Check.due("row 1", c.capacity(1, 1, column), second[column]);
            Check.due("row 3", c.capacity(1, 3, column), fourth[column]);
            for (int row = 0; row < 4; row++) {
                Check.due("the table before", c.capacity(0, row, column), 0);
                Check.due("the table behind", c.capacity(2, row, column), 0);
            }
        }
        // 100000 at most in each column, so 600000 * (1.0 + 0.9 + 0.8 + 0.7).
        Check.due("fillTable(0, 1000000)", c.fillTable(0, 1000000), 2040000);
        Check.due("capacity(0, 3, 5)", c.capacity(0, 3, 5), 70000);
        // 30001000 / 300 is above the greatest mass, the other columns are below it.
        c.fillTable(3, 30001);
        Check.due("the smaller one of 100000", c.capacity(3, 0, 0), 100000);
        Check.due("the next column", c.capacity(3, 0, 1), 50001);
        Check.due("fillTable(0, 0)", c.fillTable(0, 0), 0);
        for (int wrong : new int[] {-1, 4, BIG, SMALL}) {
            Check.noIndex("fillTable", c, () -> c.fillTable(wrong, 5));
            Check.noIndex("fillTable, both wrong", c, () -> c.fillTable(wrong, -5));
        }
        for (int wrong : new int[] {-1, 1000001, BIG, SMALL}) {
            Check.noArgument("fillTable", c, () -> c.fillTable(3, wrong));
        }
        undoable("fillTable", x -> x.fillTable(1, 777));
        undoable("fillTable with no change", x -> x.fillTable(1, 0));
    }

    private static void promise6() {
        CraneLimiter c = new CraneLimiter();
        c.setCapacity(2, 1, 4, 321);
        Check.due("capacity(2, 1, 4)", c.capacity(2, 1, 4), 321);
        Check.due("capacity(2, 1, 5)", c.capacity(2, 1, 5), 0);
        int[][] places = {{-1, 0, 0}, {4, 0, 0}, {0, -1, 0}, {0, 4, 0}, {0, 0, -1}, {0, 0, 6}, {0, BIG, SMALL}};
        for (int[] p : places) {
            Check.noIndex("capacity", c, () -> c.capacity(p[0], p[1], p[2]));
        }
        notUndoable("capacity", x -> x.capacity(0, 0, 0));
    }

    private static void promise7() {
        CraneLimiter c = new CraneLimiter();
        Check.due("addZone", c.addZone(0, 0, 600, 1549), 1);
        Check.due("at the limits of a zone", c.boom(9), 0);
        Check.due("addZone", c.addZone(0, 3599, 599, 1540), 2);
        Check.due("beyond both limits", c.boom(9), 10);
        Check.due("addZone", c.addZone(3599, 0, 0, 10000), 3);
        Check.due("the sum for all zones", c.boom(9), 610);
        Check.due("addZone", c.addZone(1, 3599, 0, 0), 4);
        Check.due("not met on the way", c.boom(9), 610);
        Check.due("addZone", c.addZone(10, 10, 10000, 10000), 5);
        Check.due("addZone", c.addZone(20, 10, 10000, 0), 6);
        Check.due("met over the front", c.boom(9), 610 + 1549);
        Check.noState("a seventh zone", c, () -> c.addZone(0, 0, 0, 0));
        int[][] wrong = {{-1, 0, 0, 0}, {3600, 0, 0, 0}, {0, -1, 0, 0}, {0, 3600, 0, 0}, {0, 0, -1, 0},
            {0, 0, 10001, 0}, {0, 0, 0, -1}, {0, 0, 0, 10001}, {SMALL, 0, 0, 0}, {0, BIG, 0, 0}};
        CraneLimiter empty = new CraneLimiter();
        for (int[] z : wrong) {
            Check.noArgument("addZone", empty, () -> empty.addZone(z[0], z[1], z[2], z[3]));
            Check.noArgument("addZone to six, both wrong", c, () -> c.addZone(z[0], z[1], z[2], z[3]));
        }
        undoable("addZone", x -> x.addZone(0, 3599, 0, 0));
        zoneBounds();
    }

    private static void zoneBounds() {
        CraneLimiter c = new CraneLimiter();
        c.addZone(3000, 600, 500, 10000);
        int[] inside = {3000, 3599, 0, 600};
        for (int slew : inside) {
            Check.due("in the zone at " + slew, c.setBoom(1500, 600, slew), 100);
        }
        int[] outside = {601, 1800, 2999};
        for (int slew : outside) {
            Check.due("out of the zone at " + slew, c.setBoom(1500, 600, slew), 0);
        }
    }

    private static void promise8() {
        CraneLimiter c = new CraneLimiter();
        c.addZone(0, 0, 599, 10000);
        c.addZone(0, 0, 590, 10000);
        c.addZone(0, 0, 500, 10000);
        Check.due("three zones", c.boom(9), 111);
        Check.noIndex("removeZone(3)", c, () -> c.removeZone(3));
        Check.noIndex("removeZone(-1)", c, () -> c.removeZone(-1));
        Check.noIndex("removeZone(BIG)", c, () -> c.removeZone(BIG));
        Check.noIndex("removeZone(SMALL)", c, () -> c.removeZone(SMALL));
        Check.due("removeZone(0)", c.removeZone(0), 2);
        Check.due("two zones", c.boom(9), 110);
        Check.due("the zones behind it moved up", c.removeZone(1), 1);
        Check.due("one zone", c.boom(9), 10);
        Check.noIndex("removeZone(1)", c, () -> c.removeZone(1));
        Check.due("removeZone(0)", c.removeZone(0), 0);
        Check.due("no zone", c.boom(9), 0);
        Check.noIndex("removeZone(0) of none", c, () -> c.removeZone(0));
        for (int zone = 1; zone <= 6; zone++) {
            c.addZone(0, 0, 10000, 1549 - (1 << zone));
        }
        Check.due("six zones", c.boom(9), 126);
        int left = 126;
        for (int removed : new int[] {6, 1, 3, 2, 4, 5}) {
            // The zones before it that are still there tell its present number.
            int index = 0;
            for (int other = 1; other < removed; other++) {
                index += (left >> other) & 1;
            }
            c.removeZone(index);
            left -= 1 << removed;
            Check.due("after the zone " + removed, c.boom(9), left);
        }
        undoable("removeZone", x -> x.removeZone(0));
    }

    private static void promise9() {
        CraneLimiter c = new CraneLimiter();
        c.run(1, 3);
        Check.due("the hook is up", c.boom(5), 60);
        Check.due("setBoom", c.setBoom(2000, 450, 3599), 0);
        Check.due("length", c.boom(0), 2000);
        Check.due("angle", c.boom(1), 450);
        Check.due("slew", c.boom(2), 3599);
        Check.due("the hook is down", c.boom(5), 0);
        c.addZone(0, 100, 10000, 300);
        // At 0 the tip is at 250, at 850 it is at 9924 / 10000 of the length + 250.
        Check.due("no violation of a flat boom", c.setBoom(1000, 0, 100), 0);
        Check.due("violation of a steep boom", c.setBoom(6000, 850, 0), 6000 * 9924 / 10000 + 250 - 300);
        int[][] wrong = {{999, 0, 0}, {6001, 0, 0}, {1000, -1, 0}, {1000, 851, 0}, {1000, 0, -1}, {1000, 0, 3600},
            {SMALL, 0, 0}, {1000, BIG, 0}, {1000, 0, BIG}};
        CraneLimiter tight = Cranes.lifting();
        for (int[] p : wrong) {
            Check.noArgument("setBoom", c, () -> c.setBoom(p[0], p[1], p[2]));
            Check.noArgument("setBoom under load, both wrong", tight, () -> tight.setBoom(p[0], p[1], p[2]));
        }
        Check.noState("setBoom under load", tight, () -> tight.setBoom(1500, 600, 0));
        tight.run(2, 3);
        Check.noState("setBoom with a tension of 1", tight, () -> tight.setBoom(1500, 600, 0));
        tight.run(2, 1);
        Check.due("setBoom with a load on the ground", tight.setBoom(1500, 600, 0), 0);
        undoable("setBoom", x -> x.setBoom(1000, 0, 1));
        undoable("setBoom with no change", x -> x.setBoom(1500, 600, 0));
    }

    private static void promise10() {
        CraneLimiter c = new CraneLimiter();
        Check.due("wind(70)", c.wind(70), 70);
        Check.due("wind(1000)", c.wind(1000), 1000);
        Check.due("wind(0)", c.wind(0), 1000);
        Check.due("wind(5)", c.wind(5), 1000);
        Check.due("wind(6)", c.wind(6), 1000);
        Check.due("the latest four", c.wind(4), 6);
        Check.due("limiter(4)", c.limiter(4), 6);
        Check.noArgument("wind(-1)", c, () -> c.wind(-1));
        Check.noArgument("wind(1001)", c, () -> c.wind(1001));
        Check.noArgument("wind(BIG)", c, () -> c.wind(BIG));
        Check.noArgument("wind(SMALL)", c, () -> c.wind(SMALL));
        undoable("wind", x -> x.wind(500));
        undoable("wind with no change", x -> x.wind(0));
        CraneLimiter d = new CraneLimiter();
        d.wind(500);
        d.wind(0);
        d.wind(0);
        d.wind(0);
        d.wind(1);
        d.undo();
        Check.due("undo brings each sample back", d.limiter(4), 500);
        windFactor();
    }

    private static void windFactor() {
        int[][] factors = {{0, 1000}, {100, 1000}, {101, 998}, {350, 500}, {599, 2}, {600, 0}, {601, 0}, {1000, 0}};
        for (int[] f : factors) {
            CraneLimiter c = Cranes.strong();
            c.wind(f[0]);
            Check.due("rated with a wind of " + f[0], c.rated(1000, 0, 0), 100 * f[1]);
        }
    }

    private static void promise11() {
        CraneLimiter c = new CraneLimiter();
        Check.due("attach(100000)", c.attach(100000), 0);
        Check.due("boom(7)", c.boom(7), 100000);
        Check.due("attach(1)", c.attach(1), 100000);
        Check.due("attach(0)", c.attach(0), 1);
        Check.due("boom(7)", c.boom(7), 0);
        Check.due("attach(8)", c.attach(8), 0);
        for (int wrong : new int[] {-1, 100001, BIG, SMALL}) {
            Check.noArgument("attach", c, () -> c.attach(wrong));
        }
        c.run(1, 1);
        Check.noState("attach with a tension of 1", c, () -> c.attach(9));
        Check.noState("release with a tension of 1", c, () -> c.attach(0));
        Check.noArgument("attach, both wrong", c, () -> c.attach(-1));
        c.run(2, 1);
        Check.due("attach on the ground", c.attach(0), 8);
        c.run(1, 1);
        Check.noState("attach with the hook up", c, () -> c.attach(9));
        CraneLimiter light = new CraneLimiter();
        light.attach(1);
        light.run(1, 4);
        Check.due("the lightest load is a load", light.boom(6), 4);
        undoable("attach", x -> x.attach(5));
        undoable("attach with no change", x -> x.attach(0));
    }

    private static void promise12() {
        CraneLimiter c = new CraneLimiter();
        Check.due("setTare(2000)", c.setTare(2000), 200);
        Check.due("measured with a tare of 2000", c.limiter(0), 2000);
        Check.due("setTare(0)", c.setTare(0), 2000);
        Check.due("measured with no tare", c.limiter(0), 0);
        Check.due("setTare(1)", c.setTare(1), 0);
        for (int wrong : new int[] {-1, 2001, BIG, SMALL}) {
            Check.noArgument("setTare", c, () -> c.setTare(wrong));
        }
        undoable("setTare", x -> x.setTare(0));
        undoable("setTare with no change", x -> x.setTare(200));
    }

    private static void promise13() {
        CraneLimiter c = new CraneLimiter();
        Check.due("bypass(1000)", c.bypass(1000), 0);
        Check.due("bypass(2)", c.bypass(2), 1000);
        Check.due("the state changes only with a tick", c.limiter(7), CraneLimiter.NORMAL);
        c.run(0, 1);
        Check.due("bypassed", c.limiter(7), CraneLimiter.BYPASSED);
        Check.due("one tick less", c.boom(11), 1);
        c.run(0, 1);
        Check.due("no longer bypassed", c.limiter(7), CraneLimiter.NORMAL);
        c.run(0, 1);
        Check.due("not below 0", c.boom(11), 0);
        c.bypass(9);
        c.run(0, 1);
        Check.due("bypass(0)", c.bypass(0), 8);
        Check.due("still bypassed", c.limiter(7), CraneLimiter.BYPASSED);
        for (int wrong : new int[] {-1, 1001, BIG, SMALL}) {
            Check.noArgument("bypass", c, () -> c.bypass(wrong));
        }
        undoable("bypass", x -> x.bypass(1));
        undoable("bypass with no change", x -> x.bypass(0));
    }

    private static void promise14() {
        CraneLimiter c = Cranes.strong();
        Check.due("run(1, 100)", c.run(1, 100), 68);
        Check.due("the hook is at its limit", c.boom(5), 1349);
        Check.due("time", c.boom(10), 100);
        Check.due("run(2, 1)", c.run(2, 1), 1);
        Check.due("the hook went down", c.boom(5), 1329);
        Check.due("run(4, 1)", c.run(4, 1), 1);
        Check.due("boom up", c.boom(1), 605);
        Check.due("run(8, 2)", c.run(8, 2), 2);
        Check.due("boom down", c.boom(1), 595);
        Check.due("run(16, 3)", c.run(16, 3), 3);
        Check.due("extend", c.boom(0), 1530);
        Check.due("run(32, 1)", c.run(32, 1), 1);
        Check.due("retract", c.boom(0), 1520);
        Check.due("run(128, 1)", c.run(128, 1), 1);
        Check.due("slew left over the front", c.boom(2), 3585);
        Check.due("run(64, 2)", c.run(64, 2), 2);
        Check.due("slew right over the front", c.boom(2), 15);
        Check.due("run(0, 1)", c.run(0, 1), 1);
        for (int wrong : new int[] {-1, 256, BIG, SMALL, 3, 12, 48, 192, 255, 7, 224}) {
            Check.noArgument("run of motions " + wrong, c, () -> c.run(wrong, 1));
        }
        for (int wrong : new int[] {-1, 0, 101, BIG, SMALL}) {
            Check.noArgument("run of ticks " + wrong, c, () -> c.run(1, wrong));
        }
        undoable("run", x -> x.run(85, 100));
        undoable("run of no motion", x -> x.run(0, 1));
        slowMotions();
        motionsAtTheirEnds();
        ascendingOrder();
    }

    private static void slowMotions() {
        CraneLimiter c = Cranes.strong();
        c.bypass(1000);
        c.run(0, 1);
        c.run(1 + 4 + 16 + 64, 1);
        Check.due("slow hook", c.boom(5), 10);
        Check.due("slow boom up", c.boom(1), 602);
        Check.due("slow extend", c.boom(0), 1505);
        Check.due("slow slew right", c.boom(2), 7);
        c.run(1, 1);
        c.run(2 + 8 + 32 + 128, 1);
        Check.due("slow hook down", c.boom(5), 10);
        Check.due("slow boom down", c.boom(1), 600);
        Check.due("slow retract", c.boom(0), 1500);
        Check.due("slow slew left", c.boom(2), 0);
        c.run(128, 1);
        Check.due("slow slew left over the front", c.boom(2), 3593);
    }

    private static void motionsAtTheirEnds() {
        CraneLimiter c = Cranes.strong();
        c.setBoom(5995, 847, 0);
        Check.due("to the longest boom", c.run(16, 2), 1);
        Check.due("the longest boom", c.boom(0), 6000);
        Check.due("to the steepest boom", c.run(4, 2), 1);
        Check.due("the steepest boom", c.boom(1), 850);
        c.setBoom(1004, 3, 0);
        Check.due("to the shortest boom", c.run(32, 2), 1);
        Check.due("the shortest boom", c.boom(0), 1000);
        Check.due("to the flattest boom", c.run(8, 2), 1);
        Check.due("the flattest boom", c.boom(1), 0);
        Check.due("the hook under a flat boom", c.run(1, 4), 3);
        Check.due("its height", c.boom(5), 50);
        Check.due("down to the ground", c.run(2, 4), 3);
        Check.due("on the ground", c.boom(5), 0);
        CraneLimiter low = Cranes.strong();
        low.setBoom(1020, 29, 0);
        low.run(1, 6);
        Check.due("a hook at 101", low.boom(5), 101);
        low.run(2, 5);
        Check.due("a hook at 1", low.boom(5), 1);
        Check.due("hoist down to the ground", low.run(2, 1), 1);
        Check.due("a hook on the ground", low.boom(5), 0);
        // The tip comes down to 1224 and 250 more, and takes the hook along.
        CraneLimiter d = Cranes.strong();
        d.run(1, 100);
        d.run(8, 10);
        Check.due("the tip comes down", d.boom(4), 1500 * (7660 + (8660 - 7660) / 2) / 10000 + 250);
        Check.due("and takes the hook along", d.boom(5), d.boom(4) - 200);
        d.run(4, 1);
        Check.due("but not up", d.boom(5), 1500 * 8160 / 10000 + 50);
    }

    private static void ascendingOrder() {
        CraneLimiter c = Cranes.strong();
        c.run(1, 68);
        Check.due("hoist up comes before boom up", c.run(1 + 4, 1), 0);
        Check.due("the hook stayed", c.boom(5), 1349);
        Check.due("the boom went up", c.boom(1), 605);
        Check.due("after boom up there is room", c.run(1, 1), 1);
        // The boom may come up to the height of 1560 only: boom up uses it, extend finds none left.
        CraneLimiter d = Cranes.strong();
        d.addZone(0, 0, 10000, 1560);
        int both = d.run(4 + 16, 1);
        Check.due("boom up leaves no room for extend", both, 0);
        Check.due("boom up", d.boom(1), 605);
        Check.due("no extend", d.boom(0), 1500);
        event("boom up before extend", d, 0, 1, CraneLimiter.BLOCKED, 4);
    }

    private static void promise14States() {
        // 5000 kg and these capacities make utilizations of 849, 850, 899, 900, 949, 950, 999 and 1000.
        int u849 = 5883, u850 = 5882, u899 = 5556, u900 = 5555, u949 = 5264, u950 = 5263, u999 = 5003, u1000 = 5000;
        int[] normal = {u849, u850, u899};
        int[] warning = {u900, u949, u950, u999};
        for (int mass : normal) {
            Check.due("NORMAL stays at " + mass, Cranes.tickAt(Cranes.lifting(), mass), CraneLimiter.NORMAL);
        }
        for (int mass : warning) {
            Check.due("WARNING comes at " + mass, Cranes.tickAt(Cranes.lifting(), mass), CraneLimiter.WARNING);
        }
        Check.due("CUTOUT comes at 1000", Cranes.tickAt(Cranes.lifting(), u1000), CraneLimiter.CUTOUT);
        int[][] fromWarning = {{u849, 0}, {u850, 1}, {u899, 1}, {u950, 1}, {u999, 1}, {u1000, 2}};
        for (int[] f : fromWarning) {
            CraneLimiter c = Cranes.lifting();
            Cranes.tickAt(c, u900);
            Check.due("from WARNING at " + f[0], Cranes.tickAt(c, f[0]), f[1]);
        }
        int[][] fromCutout = {{u849, 0}, {u850, 1}, {u900, 1}, {u949, 1}, {u950, 2}, {u999, 2}, {u1000, 2}};
        for (int[] f : fromCutout) {
            CraneLimiter c = Cranes.lifting();
            Cranes.tickAt(c, u1000);
            Check.due("from CUTOUT at " + f[0], Cranes.tickAt(c, f[0]), f[1]);
        }
        int[][] fromBypassed = {{u849, 0}, {u850, 0}, {u899, 0}, {u900, 1}, {u950, 1}, {u999, 1}, {u1000, 2}};
        for (int[] f : fromBypassed) {
            CraneLimiter c = Cranes.lifting();
            Cranes.tickAt(c, u1000);
            c.bypass(2);
            Check.due("BYPASSED at 1000", Cranes.tickAt(c, u1000), CraneLimiter.BYPASSED);
            Check.due("from BYPASSED at " + f[0], Cranes.tickAt(c, f[0]), f[1]);
        }
        stateEvents(u900, u1000);
    }

    private static void stateEvents(int u900, int u1000) {
        CraneLimiter c = Cranes.lifting();
        Cranes.tickAt(c, u900);
        Cranes.tickAt(c, u900);
        Cranes.tickAt(c, u1000);
        Cranes.tickAt(c, u1000);
        c.bypass(2);
        Cranes.tickAt(c, u1000);
        Cranes.tickAt(c, u1000 / 2);
        Check.due("events of states", c.events(), 6);
        event("states", c, 0, 5, CraneLimiter.STATE, CraneLimiter.WARNING);
        event("states", c, 1, 7, CraneLimiter.STATE, CraneLimiter.CUTOUT);
        event("states", c, 2, 7, CraneLimiter.OVERLOAD, 1000);
        event("states", c, 3, 9, CraneLimiter.STATE, CraneLimiter.BYPASSED);
        event("states", c, 4, 10, CraneLimiter.STATE, CraneLimiter.CUTOUT);
        event("states", c, 5, 10, CraneLimiter.OVERLOAD, 2000);
    }

    private static void promise14Lifts() {
        CraneLimiter c = Cranes.strong();
        c.attach(5000);
        c.run(1, 3);
        c.run(2, 3);
        Check.due("a rope that was never tight", c.events(), 0);
        c.run(1, 4);
        c.run(2, 1);
        c.run(1, 1);
        c.run(2, 3);
        Check.due("the load still hangs", c.events(), 0);
        c.run(2, 1);
        Check.due("one lift", c.lifts(0), 1);
        event("lift", c, 0, 16, CraneLimiter.LIFT, 0);
        // A utilization of 249 and 250, which lie in the classes 1 and 2, and one beyond the last class.
        int[][] classes = {{20080, 1}, {20000, 2}, {5003, 7}, {1000, 7}};
        for (int[] f : classes) {
            CraneLimiter d = Cranes.strong();
            d.attach(5000);
            Cranes.level(d, f[0]);
            // The bypass keeps the cut-out from stopping the lift.
            d.bypass(6);
            d.run(1, 4);
            Cranes.level(d, 100000);
            d.run(2, 4);
            Check.due("lift of class " + f[1] + " with " + f[0], d.lifts(f[1]), 1);
        }
        CraneLimiter d = Cranes.lifting();
        Cranes.level(d, 5003);
        d.run(2, 4);
        // With a tension of 3 the net load is 3750, so 749 of 1000.
        Check.due("the utilization before the tick does not count", d.lifts(5), 1);
        d.run(1, 4);
        d.run(2, 4);
        Check.due("each lift begins at 0", d.lifts(7), 1);
    }

    private static void promise14Log() {
        CraneLimiter c = Cranes.strong();
        Check.due("hoist down on the ground", c.run(2, 3), 0);
        Check.due("a motion that stays blocked is logged once", c.events(), 1);
        event("blocked", c, 0, 1, CraneLimiter.BLOCKED, 1);
        c.run(2, 1);
        Check.due("also over calls", c.events(), 1);
        c.run(0, 1);
        c.run(2, 1);
        Check.due("but again after a tick without it", c.events(), 2);
        event("blocked", c, 1, 6, CraneLimiter.BLOCKED, 1);
        c.setBoom(1000, 850, 0);
        Check.due("two motions blocked", c.run(2 + 4 + 32, 1), 0);
        Check.due("only the new ones are logged", c.events(), 4);
        event("blocked", c, 2, 7, CraneLimiter.BLOCKED, 2);
        event("blocked", c, 3, 7, CraneLimiter.BLOCKED, 5);
        c.undo();
        c.undo();
        c.run(2, 1);
        Check.due("undo brings back what was blocked", c.events(), 2);
        c.undo();
        c.undo();
        c.run(2, 1);
        event("undo brings back what was not", c, 1, 6, CraneLimiter.BLOCKED, 1);
    }

    private static void promise15() {
        CraneLimiter c = Cranes.strong();
        Check.due("permitted on the ground", c.permitted(), 253);
        c.attach(5000);
        c.run(1, 1);
        Check.due("permitted with some tension", c.permitted(), 255);
        c.run(2, 1);
        Check.due("permitted with none", c.permitted(), 253);
        c.setBoom(6000, 850, 0);
        Check.due("permitted for the longest and steepest", c.permitted(), 255 - 2 - 4 - 16);
        c.setBoom(1000, 0, 0);
        Check.due("permitted for the shortest and flattest", c.permitted(), 255 - 2 - 8 - 32);
        c.attach(0);
        c.run(1, 3);
        Check.due("permitted with the hook up", c.permitted(), 255 - 1 - 8 - 32);
        c.undo();
        c.attach(7);
        c.run(1, 6);
        Check.due("the hook is not at its limit", c.permitted(), 255 - 8 - 32);
        c.run(1, 1);
        Check.due("the hook is at its limit", c.permitted(), 255 - 1 - 8 - 32);
        CraneLimiter d = Cranes.lifting();
        Cranes.tickAt(d, 5555);
        Check.due("permitted in WARNING", d.permitted(), 255);
        Cranes.tickAt(d, 5000);
        Check.due("permitted in CUTOUT", d.permitted(), 255 - 1 - 8 - 16);
        d.bypass(10);
        Cranes.tickAt(d, 5000);
        Check.due("permitted in BYPASSED", d.permitted(), 255);
        zonesForbid();
        notUndoable("permitted", x -> x.permitted());
    }

    private static void zonesForbid() {
        CraneLimiter c = Cranes.strong();
        c.addZone(0, 0, 600, 10000);
        Check.due("no further out", c.permitted(), 255 - 2 - 8 - 16);
        c.removeZone(0);
        c.addZone(0, 0, 10000, 1549);
        Check.due("no higher", c.permitted(), 255 - 2 - 4 - 16);
        c.removeZone(0);
        c.addZone(0, 0, 10000, 1562);
        Check.due("up to the limit itself", c.permitted(), 253);
        c.removeZone(0);
        c.addZone(15, 15, 0, 10000);
        Check.due("no slewing into a zone", c.permitted(), 255 - 2 - 64);
        c.removeZone(0);
        c.addZone(3585, 3585, 0, 10000);
        Check.due("no slewing into a zone on the left", c.permitted(), 255 - 2 - 128);
        c.removeZone(0);
        c.addZone(14, 14, 0, 10000);
        c.addZone(3584, 3584, 0, 10000);
        Check.due("slewing over a narrow zone", c.permitted(), 253);
        c.addZone(0, 0, 0, 10000);
        Check.due("slewing out of a zone", c.permitted(), 255 - 2 - 8 - 16);
        CraneLimiter d = Cranes.strong();
        d.addZone(15, 3585, 0, 0);
        d.bypass(9);
        d.run(0, 1);
        // One slow tick goes 7 only, so a zone 15 away is not met.
        Check.due("a slow tick", d.permitted(), 253);
        d.addZone(7, 7, 0, 0);
        Check.due("the bypass does not open zones", d.permitted(), 253 - 64);
    }

    private static void promise15Slewing() {
        // Table 1 counts from 451 to 2249; a slew motion looks 50 ahead.
        int[][] ahead = {{400, 253}, {401, 253 - 64}, {2300, 253}, {2299, 253 - 128}, {3599, 253}};
        for (int[] f : ahead) {
            CraneLimiter d = new CraneLimiter();
            d.fillTable(2, 100000);
            d.setOutrigger(1, 1);
            d.setBoom(1500, 600, f[0]);
            d.attach(5000);
            Check.due("no load, no limit", d.permitted(), 253);
            d.run(1, 4);
            Check.due("slewing at " + f[0], d.permitted(), f[1] + 2);
        }
        CraneLimiter d = new CraneLimiter();
        d.fillTable(2, 100000);
        d.setOutrigger(1, 1);
        d.setBoom(1500, 600, 420);
        d.attach(5000);
        d.run(1, 4);
        for (int column = 0; column < 3; column++) {
            d.setCapacity(1, 0, column, 5003);
            d.setCapacity(1, 1, column, 5003);
        }
        Check.due("999 ahead", d.permitted(), 255);
        for (int column = 0; column < 3; column++) {
            d.setCapacity(1, 0, column, 5000);
            d.setCapacity(1, 1, column, 5000);
        }
        Check.due("1000 ahead", d.permitted(), 255 - 64);
        Cranes.level(d, 5000);
        Check.due("1000 ahead and here", d.permitted(), 255);
        Cranes.level(d, 5003);
        Check.due("1000 ahead and 999 here", d.permitted(), 255 - 64);
        d.bypass(9);
        d.run(0, 1);
        Check.due("BYPASSED", d.permitted(), 255);
    }

    private static void promise16() {
        CraneLimiter c = new CraneLimiter();
        c.fillTable(2, 6000);
        c.attach(9000);
        c.run(1, 3);
        Check.due("before", c.limiter(6), 1000 * c.limiter(2) / c.limiter(5));
        int after = c.predicted(0);
        Check.due("the crane stays", c.boom(6), 3);
        c.undo();
        c.run(1, 4);
        Check.due("predicted(0)", after, c.limiter(6));
        Check.due("predicted(0)", after, 973);
        int[] motions = {2, 3, 4, 5, 6, 7};
        for (int motion : motions) {
            int due = c.predicted(motion);
            long before = c.digest();
            c.run(1 << motion, 1);
            Check.due("predicted(" + motion + ")", due, c.limiter(6));
            c.undo();
            Check.due("back again", c.digest(), before);
        }
        Check.holds("boom down is worse", c.predicted(3) > c.predicted(2));
        Check.holds("a slack rope is better", c.predicted(1) < c.predicted(2));
        CraneLimiter d = Cranes.lifting();
        Cranes.tickAt(d, 5000);
        int down = d.predicted(3);
        d.bypass(9);
        Check.due("also what is not permitted, at the same slow speed", down, d.predicted(3));
        Check.due("predicted(0) at the top", Cranes.strong().predicted(0), 0);
        Check.due("no load", new CraneLimiter().predicted(1), 0);
        for (int wrong : new int[] {-1, 8, BIG, SMALL}) {
            Check.noArgument("predicted", c, () -> c.predicted(wrong));
        }
        notUndoable("predicted", x -> x.predicted(0));
    }

    private static void promise17() {
        CraneLimiter c = new CraneLimiter();
        cosines();
        // The cosines of 5 and 85 degrees lie halfway between their neighbours.
        int[][] positions = {{1000, 0, 850, 250}, {6000, 0, 5850, 250}, {6000, 850, 370, 6204}, {1000, 850, 100, 1242},
            {2000, 900 - 50, 100, 2234}, {3333, 123, 3333 * 9745 / 10000 - 150, 3333 * 2123 / 10000 + 250}};
        for (int[] p : positions) {
            c.setBoom(p[0], p[1], 77);
            Check.due("boom(0)", c.boom(0), p[0]);
            Check.due("boom(1)", c.boom(1), p[1]);
            Check.due("boom(2)", c.boom(2), 77);
            Check.due("R0 of " + p[0] + ", " + p[1], c.boom(3), p[2]);
            Check.due("H of " + p[0] + ", " + p[1], c.boom(4), p[3]);
        }
        CraneLimiter d = Cranes.lifting();
        d.run(1, 2);
        d.addZone(0, 0, 590, 1500);
        d.bypass(55);
        int[] values = {1500, 600, 0, 600, 1549, 40, 4, 5000, 8856, 59, 6, 55};
        for (int what = 0; what < values.length; what++) {
            Check.due("boom(" + what + ")", d.boom(what), values[what]);
        }
        // 2700 kg at 750 cm, the deflection of 8 and the moment of 1200 * 375.
        deflections();
        d.bypass(0);
        d.run(2, 4);
        Check.due("the pressure with half of the load", d.boom(8), (2700 * (600 + 8 + 150) + 1200 * 375) / 500);
        for (int wrong : new int[] {-1, 12, BIG, SMALL}) {
            Check.noArgument("boom", c, () -> c.boom(wrong));
        }
        notUndoable("boom", x -> x.boom(8));
    }

    private static void cosines() {
        int[] cosines = {10000, 9848, 9397, 8660, 7660, 6428, 5000, 3420, 1736};
        CraneLimiter c = new CraneLimiter();
        for (int length = 4000; length <= 6000; length += 81) {
            for (int k = 0; k <= 8; k++) {
                c.setBoom(length, 100 * k, 0);
                Check.due("R0 at " + 100 * k, c.boom(3), length * cosines[k] / 10000 - 150);
                if (k >= 1) {
                    Check.due("H at " + 100 * k, c.boom(4), length * cosines[9 - k] / 10000 + 250);
                }
            }
        }
        // Between 80 and 90 degrees the fall of 1736 is rounded down, so the cosine is rounded up.
        c.setBoom(6000, 801, 0);
        Check.due("R0 at 801", c.boom(3), 6000 * (1736 - 17) / 10000 - 150);
        c.setBoom(6000, 2, 0);
        Check.due("H at 2", c.boom(4), 6000 * (1736 - 1701) / 10000 + 250);
    }

    /** The pressure and the measured radius where the deflection is just a whole number, or just below one. */
    private static void deflections() {
        CraneLimiter c = Cranes.strong();
        c.setTare(1000);
        // 1000 * 1500 * 1500 is 3 * 750000000.
        Check.due("a deflection of 3", c.boom(8), (1000 * (600 + 3 + 150) + 1200 * 375) / 500);
        c.setTare(999);
        Check.due("a deflection of 2", c.boom(8), (999 * (600 + 2 + 150) + 1200 * 375) / 500);
        CraneLimiter odd = new CraneLimiter();
        odd.setBoom(1500, 601, 0);
        Check.due("an odd radius", odd.boom(8), (200 * (597 + 150) + 1200 * 373) / 500);
        CraneLimiter d = Cranes.strong();
        d.setBoom(1097, 600, 0);
        d.attach(38017 - 200);
        d.bypass(9);
        d.run(1, 4);
        Check.due("a deflection just below 61", d.boom(8), (38017 * (398 + 60 + 150) + 877 * 274) / 500);
    }

    private static void promise18() {
        CraneLimiter c = new CraneLimiter();
        c.fillTable(1, 6000);
        c.setOutrigger(3, 1);
        c.wind(150);
        c.attach(9000);
        c.run(1, 4);
        int rated = c.rated(1500, 600, 0);
        // The pressure is 15196, so a moment of 7148000 is left for the arm of 600 + 27 + 150.
        Check.due("measured mass", c.limiter(0), 7148000 / 777);
        Check.due("measured radius", c.limiter(1), 627);
        Check.due("net load", c.limiter(2), 8999);
        Check.due("table", c.limiter(3), 1);
        Check.due("wind", c.limiter(4), 150);
        Check.holds("the measured radius is the greater one", c.limiter(5) < rated);
        Check.due("utilization", c.limiter(6), 1000 * 8999 / c.limiter(5));
        Check.due("state", c.limiter(7), CraneLimiter.CUTOUT);
        c.fillTable(1, 0);
        Check.due("no capacity", c.limiter(6), 9999);
        c.setCapacity(1, 0, 1, 10);
        Check.due("utilization of 9999 at most", c.limiter(6), 9999);
        Check.due("no net load", new CraneLimiter().limiter(6), 0);
        CraneLimiter tare = new CraneLimiter();
        tare.setTare(0);
        Check.due("nothing to measure", tare.limiter(0), 0);
        Check.due("no net load of nothing", tare.limiter(2), 0);
        // The deflection is so great that the measuring does not come to an end of its own.
        CraneLimiter steep = Cranes.strong();
        steep.setBoom(6000, 850, 0);
        steep.attach(100000);
        steep.bypass(9);
        steep.run(1, 4);
        Check.due("far off, the rope is tight", steep.boom(6), 4);
        CraneModel model = new CraneModel();
        model.fillTable(2, 1000000);
        model.setBoom(6000, 850, 0);
        model.attach(100000);
        model.bypass(9);
        model.run(1, 4);
        for (int what = 0; what < 3; what++) {
            Check.due("far off, limiter(" + what + ")", steep.limiter(what), model.limiter(what));
        }
        CraneLimiter hook = new CraneLimiter();
        hook.setTare(5);
        Check.due("measured less than the tare", hook.limiter(0), 4);
        Check.due("no net load below 0", hook.limiter(2), 0);
        CraneLimiter light = Cranes.strong();
        light.setTare(0);
        light.attach(9);
        light.run(1, 4);
        Cranes.level(light, 1);
        int net = light.limiter(2);
        Check.holds("a small net load", net >= 1 && net <= 9);
        Check.due("a rated capacity of 1", light.limiter(6), 1000 * net);
        CraneLimiter lightest = Cranes.strong();
        lightest.setTare(1);
        lightest.attach(1);
        lightest.run(1, 4);
        Cranes.level(lightest, 1000);
        Check.due("a net load of 1", lightest.limiter(2), 1);
        Check.due("its utilization", lightest.limiter(6), 1);
        for (int wrong : new int[] {-1, 8, BIG, SMALL}) {
            Check.noArgument("limiter", c, () -> c.limiter(wrong));
        }
        notUndoable("limiter", x -> x.limiter(6));
    }

    private static void promise19() {
        CraneLimiter c = new CraneLimiter();
        c.fillTable(2, 8000);
        Check.due("rated(1500, 600, 0)", c.rated(1500, 600, 0), 12666);
        Check.due("rated(1000, 600, 0)", c.rated(1000, 600, 0), 24443);
        Check.due("the present boom does not count", c.boom(0), 1500);
        // R0 is 850 at the length of 1000: between 600 and 1000, 150 from the latter.
        Check.due("rated(1000, 0, 0)", c.rated(1000, 0, 0), (13333 * 150 + 8000 * 250) / 400);
        Check.due("a radius below 300 counts as 300", c.rated(1000, 850, 0), 26666);
        Check.due("a radius of 3000", c.rated(3150, 0, 0), (2399 * 350 + 2132 * 1150) / 1500);
        Check.due("a radius of 3001", c.rated(3151, 0, 0), 0);
        Check.due("the longest boom", c.rated(6000, 700, 0), ratedAtTheLongest());
        int[][] wrong = {{999, 0, 0}, {6001, 0, 0}, {1000, -1, 0}, {1000, 851, 0}, {1000, 0, -1}, {1000, 0, 3600},
            {BIG, 0, 0}, {1000, SMALL, 0}, {1000, 0, SMALL}};
        for (int[] p : wrong) {
            Check.noArgument("rated", c, () -> c.rated(p[0], p[1], p[2]));
        }
        notUndoable("rated", x -> x.rated(1000, 0, 0));
        rowsOfLengths();
    }

    private static void rowsOfLengths() {
        // At 85 degrees the radius of a boom up to 3500 counts as 300, so the rows alone matter.
        int[][] due = {{0, 1000, 10000}, {0, 1001, 9990}, {0, 2000, 0}, {1, 1000, 0}, {1, 1999, 9990},
            {1, 2000, 10000}, {1, 2001, 9993}, {1, 3500, 0}, {2, 2000, 0}, {2, 3499, 9993}, {2, 3500, 10000},
            {2, 3501, 9996}, {2, 6000, 0}, {3, 3500, 0}, {3, 3501, 4}, {3, 5999, 9996}, {3, 6000, 10000}};
        for (int[] f : due) {
            CraneLimiter c = new CraneLimiter();
            for (int column = 0; column < 6; column++) {
                c.setCapacity(2, f[0], column, 10000);
            }
            Check.due("row " + f[0] + " at the length " + f[1], c.rated(f[1], 850, 0), f[2]);
        }
    }

    /** At 70 degrees R0 is 1902, between 1500 and 2200; the row of 6000 alone counts. */
    private static int ratedAtTheLongest() {
        return (3733 * (2200 - 1902) + 2545 * (1902 - 1500)) / 700;
    }

    private static void promise20() {
        CraneLimiter c = new CraneLimiter();
        Check.due("no capacity at all", c.maxRadius(1), CraneLimiter.NONE);
        c.fillTable(2, 8000);
        Check.due("maxRadius(5000)", c.maxRadius(5000), 1528);
        Check.due("maxRadius(100000)", c.maxRadius(100000), CraneLimiter.NONE);
        Check.due("maxRadius(1)", c.maxRadius(1), 3000);
        c.fillTable(2, 0);
        c.setCapacity(2, 0, 0, 3000);
        c.setCapacity(2, 1, 0, 3000);
        Check.due("maxRadius(3000)", c.maxRadius(3000), 300);
        Check.due("maxRadius(3001)", c.maxRadius(3001), CraneLimiter.NONE);
        Check.due("maxRadius(2990)", c.maxRadius(2990), 301);
        Check.due("maxRadius(1500)", c.maxRadius(1500), 450);
        for (int column = 0; column < 6; column++) {
            CraneLimiter d = new CraneLimiter();
            d.setCapacity(2, 0, column, 5000);
            d.setCapacity(2, 1, column, 5000);
            Check.due("a peak at column " + column, d.maxRadius(5000), RADII[column]);
        }
        // A peak at 2200, behind a dip at 1500.
        c.setCapacity(2, 0, 4, 7000);
        c.setCapacity(2, 1, 4, 7000);
        Check.due("a peak", c.maxRadius(7000), 2200);
        Check.due("behind the peak", c.maxRadius(3500), 2600);
        c.wind(350);
        Check.due("with wind", c.maxRadius(3500), 2200);
        Check.due("with wind, above", c.maxRadius(3501), CraneLimiter.NONE);
        c.setBoom(1500, 600, 1000);
        c.setOutrigger(1, 1);
        Check.due("the table for S", c.maxRadius(1), CraneLimiter.NONE);
        for (int wrong : new int[] {-1, 0, 100001, BIG, SMALL}) {
            Check.noArgument("maxRadius", c, () -> c.maxRadius(wrong));
        }
        notUndoable("maxRadius", x -> x.maxRadius(1));
    }

    private static void promise21() {
        CraneLimiter c = new CraneLimiter();
        c.fillTable(2, 9000);
        c.fillTable(1, 5000);
        c.fillTable(0, 1000);
        c.setOutrigger(1, 1);
        c.setOutrigger(2, 0);
        c.attach(4000);
        c.run(1, 4);
        Check.due("worstSlew(0, 1800, 0)", c.worstSlew(0, 1800, 0), 2558);
        Check.due("the first one that has it", c.worstSlew(0, 1800, 1), 1400);
        Check.due("one before it", c.worstSlew(0, 1399, 0), c.worstSlew(500, 500, 0));
        Check.due("the slew angle to itself", c.worstSlew(0, 1400, 1), 1400);
        Check.due("over the front", c.worstSlew(3500, 100, 0), 284);
        Check.due("over the front, the first", c.worstSlew(3500, 100, 1), 3500);
        Check.due("one slew angle", c.worstSlew(100, 100, 1), 100);
        Check.due("nearly round", c.worstSlew(100, 50, 0), 2558);
        Check.due("the last of a way round", c.worstSlew(3199, 3148, 1), 1399);
        Check.due("steps of 50", c.worstSlew(3199, 3149, 1), 1399);
        Check.due("modulo 3600", c.worstSlew(3150, 1400, 1), 1400);
        c.predicted(3);
        Check.due("what was predicted does not count", c.worstSlew(3500, 100, 0), 284);
        CraneLimiter free = new CraneLimiter();
        Check.due("without a load", free.worstSlew(7, 3000, 0), 0);
        Check.due("without a load, the first", free.worstSlew(7, 3000, 1), 7);
        int[][] wrong = {{-1, 0, 0}, {3600, 0, 0}, {0, -1, 0}, {0, 3600, 0}, {0, 0, -1}, {0, 0, 2}, {BIG, 0, 0},
            {0, SMALL, 0}, {0, 0, BIG}};
        for (int[] p : wrong) {
            Check.noArgument("worstSlew", c, () -> c.worstSlew(p[0], p[1], p[2]));
        }
        notUndoable("worstSlew", x -> x.worstSlew(0, 0, 0));
    }

    private static void promise22() {
        CraneLimiter c = new CraneLimiter();
        for (int i = 1; i <= 40; i++) {
            c.run(2, 1);
            c.run(0, 1);
            Check.due("events", c.events(), Math.min(i, 30));
        }
        notUndoable("events", x -> x.events());
    }

    private static void promise23() {
        CraneLimiter c = new CraneLimiter();
        Check.noIndex("event(0, 0) of none", c, () -> c.event(0, 0));
        for (int i = 0; i < 34; i++) {
            c.run(2, 1);
            c.run(0, 1);
        }
        for (int i = 0; i < 30; i++) {
            event("the latest 30", c, i, 2 * (i + 4) + 1, CraneLimiter.BLOCKED, 1);
        }
        for (int wrong : new int[] {-1, 30, BIG, SMALL}) {
            Check.noIndex("event", c, () -> c.event(wrong, 0));
            Check.noIndex("event, both wrong", c, () -> c.event(wrong, 3));
        }
        for (int wrong : new int[] {-1, 3, BIG, SMALL}) {
            Check.noArgument("event", c, () -> c.event(0, wrong));
        }
        undoable("the run behind an event", x -> {
            x.run(2, 1);
            x.event(0, 0);
        });
    }

    private static void promise24() {
        CraneLimiter c = Cranes.lifting();
        Cranes.tickAt(c, 5555);
        Cranes.tickAt(c, 5555);
        Cranes.tickAt(c, 5000);
        c.bypass(4);
        c.run(0, 4);
        int[] times = {4, 2, 2, 3};
        for (int state = 0; state < 4; state++) {
            Check.due("stateTime(" + state + ")", c.stateTime(state), times[state]);
        }
        for (int wrong : new int[] {-1, 4, BIG, SMALL}) {
            Check.noArgument("stateTime", c, () -> c.stateTime(wrong));
        }
        notUndoable("stateTime", x -> x.stateTime(0));
    }

    /** Lifts 5000 kg once, with a utilization of (class * 125). */
    private static void lift(CraneLimiter c, int liftClass) {
        Cranes.level(c, liftClass == 0 ? 100000 : 40000 / liftClass);
        c.run(1, 4);
        c.run(2, 4);
    }

    private static void promise25() {
        CraneLimiter c = Cranes.strong();
        c.attach(5000);
        for (int liftClass = 0; liftClass < 8; liftClass++) {
            lift(c, liftClass);
            Check.due("lifts(" + liftClass + ")", c.lifts(liftClass), 1);
        }
        lift(c, 3);
        Check.due("lifts(3)", c.lifts(3), 2);
        Check.due("lifts(4)", c.lifts(4), 1);
        for (int wrong : new int[] {-1, 8, BIG, SMALL}) {
            Check.noArgument("lifts", c, () -> c.lifts(wrong));
        }
        notUndoable("lifts", x -> x.lifts(0));
    }

    private static void promise26() {
        CraneLimiter c = Cranes.strong();
        Check.due("no lift", c.spectrum(), CraneLimiter.NONE);
        c.attach(5000);
        c.run(1, 4);
        Check.due("no lift that has ended", c.spectrum(), CraneLimiter.NONE);
        c.run(2, 4);
        Check.due("one lift of class 0", c.spectrum(), 1000 / 512);
        lift(c, 7);
        Check.due("and one of class 7", c.spectrum(), 1000 * (1 + 512) / 1024);
        lift(c, 4);
        Check.due("and one of class 4", c.spectrum(), 1000 * (1 + 512 + 125) / (512 * 3));
        lift(c, 4);
        Check.due("and another one", c.spectrum(), 1000 * (1 + 512 + 250) / (512 * 4));
        notUndoable("spectrum", x -> x.spectrum());
    }

    private static void promise27() {
        CraneLimiter c = new CraneLimiter();
        for (int i = 1; i <= 80; i++) {
            Check.due("type", c.type(i % 2 == 0 ? 0 : 127), i);
        }
        Check.noState("type of byte 81", c, () -> c.type(1));
        for (int wrong : new int[] {-1, 128, BIG, SMALL}) {
            Check.noArgument("type, both wrong", c, () -> c.type(wrong));
        }
        c.clearText();
        for (int wrong : new int[] {-1, 128, BIG, SMALL}) {
            Check.noArgument("type", c, () -> c.type(wrong));
        }
        Check.due("type after clearText", c.type(' '), 1);
        notUndoable("type", x -> x.type(32));
        CraneLimiter d = new CraneLimiter();
        d.setTare(5);
        d.type('w');
        d.undo();
        Check.due("undo leaves the text", d.type('x'), 2);
    }

    private static void promise28() {
        CraneLimiter c = new CraneLimiter();
        Check.due("clearText of none", c.clearText(), 0);
        Cranes.text(c, "w1;x");
        Check.due("clearText", c.clearText(), 4);
        Check.due("clearText again", c.clearText(), 0);
        Check.due("nothing is left of it", c.runScript(), 0);
        Cranes.text(c, "w1;");
        Check.due("the new text alone", c.runScript(), 1);
        notUndoable("clearText", x -> x.clearText());
    }

    private static void promise29() {
        String[] orders = {"h+", "h-", "b+", "b-", "e+", "e-", "s+", "s-"};
        for (int motion = 0; motion < 8; motion++) {
            CraneLimiter byScript = Cranes.strong();
            byScript.run(1, 20);
            CraneLimiter byRun = Cranes.strong();
            byRun.run(1, 20);
            Cranes.text(byScript, orders[motion] + "12;");
            Cranes.text(byRun, orders[motion] + "12;");
            Check.due("script " + orders[motion], byScript.runScript(), 12);
            byRun.run(1 << motion, 12);
            Check.due("motion of " + orders[motion], byScript.digest(), byRun.digest());
        }
        CraneLimiter waiting = Cranes.strong();
        CraneLimiter idle = Cranes.strong();
        waiting.setBoom(6000, 850, 0);
        idle.setBoom(6000, 850, 0);
        Cranes.text(waiting, "w7;");
        Cranes.text(idle, "w7;");
        waiting.runScript();
        idle.run(0, 7);
        waiting.run(2, 1);
        idle.run(2, 1);
        Check.due("w is ticks without motions", waiting.digest(), idle.digest());
        Check.due("w blocks nothing", waiting.events(), 1);
        CraneLimiter c = Cranes.strong();
        Cranes.text(c, " h + 4 ;b-1;  w 99 ; e+01;s-9 ; ");
        Check.due("a script with blanks", c.runScript(), 4 + 1 + 99 + 1 + 9);
        int[] boom = {1510, 595, 3600 - 9 * 15};
        for (int what = 0; what < 3; what++) {
            Check.due("boom(" + what + ") after it", c.boom(what), boom[what]);
        }
        Check.due("the hook after it", c.boom(5), 80);
        Check.due("the time after it", c.boom(10), 114);
        Check.due("the text stays", c.runScript(), 114);
        Check.due("one saved state for all orders", c.undo(), 3);
        Check.due("the time after undo", c.boom(10), 114);
        for (String none : new String[] {"", " ", "     "}) {
            CraneLimiter d = new CraneLimiter();
            Cranes.text(d, none);
            Check.due("a script without orders", d.runScript(), 0);
            Check.due("is undoable too", d.undo(), 0);
        }
        StringBuilder longest = new StringBuilder();
        for (int i = 0; i < 20; i++) {
            longest.append("w99;");
        }
        Cranes.text(c, longest.toString());
        Check.due("the longest script", c.runScript(), 20 * 99);
        StringBuilder shortest = new StringBuilder("  ");
        for (int i = 0; i < 26; i++) {
            shortest.append("w1;");
        }
        Cranes.text(c, shortest.toString());
        Check.due("the most orders", c.runScript(), 26);
    }

    private static void fault(String text, int fault) {
        CraneLimiter c = new CraneLimiter();
        Cranes.text(c, text);
        long before = c.digest();
        Check.due("fault of \"" + text + "\"", c.runScript(), -10 - fault);
        Check.due("nothing is done", c.digest(), before);
        Check.noState("nothing is saved", c, () -> c.undo());
    }

    private static void promise29Faults() {
        String[] beginnings = {"h", "h ", "h+", "h+ ", "h+1", "h+12", "h+1 ", "h+0", "h+00", "w", "w ", "w1", "w 10 ",
            "w1;h", "w1; s- 9"};
        for (String s : beginnings) {
            fault(s, s.length());
        }
        fault("x", 0);
        fault(" H+1;", 1);
        fault("W1;", 0);
        fault(";", 0);
        fault("+1;", 0);
        fault("1;", 0);
        fault("h1;", 1);
        fault("h*1;", 1);
        fault("h 12", 2);
        fault("h++1;", 2);
        fault("h+;", 2);
        fault("h+ ;", 3);
        fault("h+0;", 3);
        fault("h+00;", 4);
        fault("h+000;", 4);
        fault("h+0 ;", 3);
        fault("h+0 5;", 3);
        fault("h+00 5;", 4);
        fault("h+1 2;", 4);
        fault("s-123;", 4);
        fault("s-12 3;", 5);
        fault("s-012;", 4);
        fault("w;", 1);
        fault("w+1;", 1);
        fault("w-1;", 1);
        fault("w1;;", 3);
        fault("w1,", 2);
        fault("w1:", 2);
        fault("w/;", 1);
        fault("w1;b+5;e-9:", 10);
        fault("w1;\t", 3);
        fault("h,1;", 1);
        fault("\0", 0);
        CraneLimiter c = new CraneLimiter();
        Cranes.text(c, "h+");
        Check.due("a script that ends too early", c.runScript(), -12);
        Cranes.text(c, "w3;w4;");
        Check.due("and one without a fault behind it", c.runScript(), 7);
        Cranes.text(c, "w3;");
        Check.due("and one with fewer orders", c.runScript(), 3);
    }

    private static void promise30() {
        CraneLimiter c = new CraneLimiter();
        for (int ticks = 1; ticks <= 6; ticks++) {
            c.bypass(ticks);
        }
        for (int left = 3; left >= 0; left--) {
            Check.due("undo", c.undo(), left);
            Check.due("the bypass time after it", c.boom(11), left + 2);
        }
        Check.noState("undo of an empty stack", c, () -> c.undo());
        Check.due("bypass after undo", c.bypass(9), 2);
        Check.due("undo again", c.undo(), 0);
        undoAll();
    }

    private static void undoAll() {
        CraneLimiter c = Cranes.lifting();
        c.addZone(0, 100, 9000, 9000);
        c.wind(120);
        c.setOutrigger(2, 1);
        Cranes.text(c, "h-4;s+1;w1;");
        long before = c.digest();
        c.runScript();
        Check.due("the lift has ended", c.lifts(0), 1);
        Check.due("undo of it", c.undo(), 3);
        // This changes nothing but the depth of the stack, which is 4 again.
        c.setOutrigger(2, 1);
        Check.due("everything is back", c.digest(), before);
        c.run(2, 4);
        Check.due("the lift in progress too", c.lifts(0), 1);
        undoZonesStatesAndLog();
    }

    private static void undoZonesStatesAndLog() {
        CraneLimiter c = Cranes.lifting();
        c.addZone(0, 0, 599, 10000);
        c.addZone(0, 0, 590, 10000);
        long before = c.digest();
        c.removeZone(0);
        c.undo();
        c.setTare(200);
        Check.due("undo of removeZone", c.digest(), before);
        c.bypass(9);
        before = c.digest();
        c.run(0, 1);
        Check.due("another state", c.limiter(7), CraneLimiter.BYPASSED);
        c.undo();
        c.setTare(200);
        Check.due("undo of a change of the state", c.digest(), before);
        CraneLimiter d = Cranes.strong();
        for (int i = 0; i < 32; i++) {
            d.run(2, 1);
            d.run(0, 1);
        }
        d.setBoom(1000, 0, 0);
        d.bypass(3);
        before = d.digest();
        Cranes.text(d, "b-1;w1;s+2;e-1;w1;b-2;w1;e-1;h-1;");
        d.runScript();
        Check.due("the last one of them", d.event(29, 2), 1);
        Check.due("the last but one", d.event(28, 2), 5);
        d.clearText();
        d.undo();
        d.setTare(200);
        Check.due("undo of events in a full log", d.digest(), before);
    }

    private static void promise31() {
        CraneLimiter c = new CraneLimiter();
        Check.due("digest of a new object", c.digest(),
                Cranes.digest(c, new int[] {0, 0, 200}, new int[] {2, 2, 2, 2}, 0, new int[0]));
        c.fillTable(0, 1000);
        c.fillTable(1, 20000);
        c.fillTable(2, 4100);
        c.setCapacity(3, 1, 2, 12345);
        c.setOutrigger(1, 0);
        c.setOutrigger(3, 1);
        c.addZone(10, 20, 30, 40);
        c.addZone(3500, 60, 700, 1600);
        c.wind(110);
        c.setTare(321);
        c.attach(5000);
        Cranes.text(c, "h+4;h-4;h+9;s-2;");
        c.runScript();
        Check.due("a lift before the digest", c.lifts(1), 1);
        c.bypass(20);
        int[] zones = {10, 20, 30, 40, 3500, 60, 700, 1600};
        Check.due("digest", c.digest(),
                Cranes.digest(c, new int[] {4, 16, 321}, new int[] {2, 0, 2, 1}, 0, zones));
        c.undo();
        c.setOnWheels(true);
        c.undo();
        c.undo();
        c.clearText();
        c.type(1);
        c.setOnWheels(true);
        Check.due("digest on wheels", c.digest(),
                Cranes.digest(c, new int[] {3, 1, 321}, new int[] {2, 0, 2, 1}, 1, zones));
        notUndoable("digest", x -> x.digest());
    }
}
