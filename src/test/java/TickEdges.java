/** The boundaries in the document's sections on motions, states and ticks, scripts, undo and exceptions. */
final class TickEdges {
    private static final int TOP = 1549 - 200;

    private TickEdges() {
    }

    static void run() {
        motions();
        motionsCarriedOut();
        motionsNotPermitted();
        ticks();
        states();
        lifts();
        scripts();
        undo();
        exceptions();
    }

    /** A crane that is bypassed, and so moves at the slow speeds. */
    private static CraneLimiter slow(int length, int angle, int slew) {
        CraneLimiter c = Cranes.at(length, angle, slew);
        c.bypass(1000);
        c.run(0, 1);
        return c;
    }

    private static void moves(String what, CraneLimiter c, int motion, int value, int due) {
        Check.due(what + " is free", c.run(1 << motion, 1), 1);
        Check.due(what, c.boom(value), due);
        c.undo();
    }

    private static void motions() {
        Doc.section("MOTIONS");
        Doc.edge("The motions are 0 hoist up, 1 hoist down, 2 boom up, 3 boom down, 4 extend, 5 retract, 6 slew right"
                + " (clockwise), 7 slew left.", () -> {
                    CraneLimiter c = Cranes.holding(2000, 500, 1000, 5000);
                    c.run(1, 2);
                    // The value of boom() that each motion changes, and what it becomes.
                    int[][] values = {{5, 60}, {5, 20}, {1, 505}, {1, 495}, {0, 2010}, {0, 1990}, {2, 1015}, {2, 985}};
                    for (int motion = 0; motion < 8; motion++) {
                        moves("motion " + motion, c, motion, values[motion][0], values[motion][1]);
                    }
                    Cranes.argument("motion -1", Cranes::busy, x -> x.predicted(-1));
                    Cranes.argument("motion 8", Cranes::busy, x -> x.predicted(8));
                    Cranes.argument("motions with motion 8", Cranes::busy, x -> x.run(256, 1));
                });
        Doc.edge("The speeds in one tick are 20 for the hook, 5 for the boom angle, 10 for the boom length, 15 for the"
                + " slew angle; if the state is not NORMAL, they are 10, 2, 5 and 7.", () -> {
                    int[] values = {5, 5, 1, 1, 0, 0, 2, 2};
                    int[] fast = {60, 20, 605, 595, 1510, 1490, 15, 3585};
                    int[] slow = {50, 30, 602, 598, 1505, 1495, 7, 3593};
                    for (int state = 0; state < 4; state++) {
                        CraneLimiter c = Cranes.in(state);
                        Check.due("the state", c.limiter(7), state);
                        int[] due = state == CraneLimiter.NORMAL ? fast : slow;
                        for (int motion = 0; motion < 8; motion++) {
                            boolean cut = motion == 0 || motion == 3 || motion == 4;
                            if (state != CraneLimiter.CUTOUT || !cut) {
                                moves("motion " + motion + " in " + state, c, motion, values[motion], due[motion]);
                            }
                        }
                    }
                    CraneLimiter c = Cranes.strong();
                    c.bypass(3);
                    int[] heights = {20, 30, 40, 60};
                    for (int i = 0; i < heights.length; i++) {
                        // The state at the beginning of a tick counts: NORMAL, BYPASSED, BYPASSED, NORMAL.
                        c.run(1, 1);
                        Check.due("the height after tick " + i, c.boom(5), heights[i]);
                    }
                });
    }

    private static void motionsCarriedOut() {
        Doc.plain("To carry out a motion for one tick means:");
        Doc.edge("hoist up: if a load is attached and the tension is less than 4, the tension increases by 1,"
                + " otherwise the height of the hook increases;", () -> {
                    CraneLimiter free = Cranes.strong();
                    moves("the height without a load", free, 0, 5, 20);
                    moves("the tension without a load", free, 0, 6, 0);
                    CraneLimiter c = Cranes.strong();
                    c.attach(1);
                    for (int tension = 1; tension <= 4; tension++) {
                        c.run(1, 1);
                        Check.due("the tension", c.boom(6), tension);
                        Check.due("the height", c.boom(5), 0);
                    }
                    c.run(1, 1);
                    Check.due("the tension of 4", c.boom(6), 4);
                    Check.due("the height with it", c.boom(5), 20);
                });
        Doc.edge("hoist down: if the height is greater than 0, it decreases, otherwise the tension decreases by 1,"
                + " neither of them below 0;", () -> {
                    CraneLimiter c = Cranes.lifting();
                    c.run(1, 68);
                    c.run(2, 67);
                    Check.due("a height below a step", c.boom(5), TOP - 67 * 20);
                    c.run(2, 1);
                    Check.due("no lower than 0", c.boom(5), 0);
                    Check.due("the rope is still tight", c.boom(6), 4);
                    for (int tension = 3; tension >= 0; tension--) {
                        Check.due("hoist down is free", c.run(2, 1), 1);
                        Check.due("the tension", c.boom(6), tension);
                    }
                    Check.due("and no lower", c.run(2, 1), 0);
                    Check.due("a tension of 0", c.boom(6), 0);
                    Check.due("a height of 0", c.boom(5), 0);
                    Check.due("no load changes by it", c.predicted(1), 0);
                    CraneLimiter exact = Cranes.lifting();
                    exact.run(1, 1);
                    exact.run(2, 1);
                    Check.due("just to 0", exact.boom(5), 0);
                    Check.due("the tension then", exact.boom(6), 4);
                });
        Doc.edge("boom up and down: A changes, within its range;", () -> {
            for (int angle = 843; angle < 850; angle++) {
                moves("boom up from " + angle, Cranes.at(2000, angle, 0), 2, 1, Math.min(850, angle + 5));
                moves("boom up slowly from " + angle, slow(2000, angle, 0), 2, 1, Math.min(850, angle + 2));
            }
            for (int angle = 1; angle <= 7; angle++) {
                moves("boom down from " + angle, Cranes.at(2000, angle, 0), 3, 1, Math.max(0, angle - 5));
                moves("boom down slowly from " + angle, slow(2000, angle, 0), 3, 1, Math.max(0, angle - 2));
            }
        });
        Doc.edge("extend and retract: L changes, within its range;", () -> {
            for (int length = 5988; length < 6000; length++) {
                moves("extend from " + length, Cranes.at(length, 800, 0), 4, 0, Math.min(6000, length + 10));
                moves("extend slowly from " + length, slow(length, 800, 0), 4, 0, Math.min(6000, length + 5));
            }
            for (int length = 1001; length <= 1012; length++) {
                moves("retract from " + length, Cranes.at(length, 800, 0), 5, 0, Math.max(1000, length - 10));
                moves("retract slowly from " + length, slow(length, 800, 0), 5, 0, Math.max(1000, length - 5));
            }
        });
        Doc.edge("slew: S changes modulo 3600.", () -> {
            int[][] right = {{3584, 3599}, {3585, 0}, {3586, 1}, {3599, 14}, {0, 15}};
            int[][] left = {{16, 1}, {15, 0}, {14, 3599}, {0, 3585}, {3599, 3584}};
            int[][] slowRight = {{3592, 3599}, {3593, 0}, {3599, 6}};
            int[][] slowLeft = {{8, 1}, {7, 0}, {6, 3599}, {0, 3593}};
            for (int[] f : right) {
                moves("slew right from " + f[0], Cranes.at(1500, 600, f[0]), 6, 2, f[1]);
            }
            for (int[] f : left) {
                moves("slew left from " + f[0], Cranes.at(1500, 600, f[0]), 7, 2, f[1]);
            }
            for (int[] f : slowRight) {
                moves("slew right slowly from " + f[0], slow(1500, 600, f[0]), 6, 2, f[1]);
            }
            for (int[] f : slowLeft) {
                moves("slew left slowly from " + f[0], slow(1500, 600, f[0]), 7, 2, f[1]);
            }
        });
        Doc.edge("After each motion the height of the hook becomes H - 200 if it is greater than that.", () -> {
            CraneLimiter c = Cranes.strong();
            c.run(1, 67);
            moves("hoist up", c, 0, 5, TOP);
            c.run(1, 1);
            // The tip is at 1541 with the angle of 595, at 1540 with the length of 1490.
            moves("boom down", c, 3, 5, 1341);
            moves("retract", c, 5, 5, 1340);
            moves("boom up leaves it", c, 2, 5, TOP);
            moves("extend leaves it", c, 4, 5, TOP);
            moves("slew leaves it", c, 6, 5, TOP);
            // A hook that is at the new limit, and one that is below it.
            CraneLimiter just = Cranes.strong();
            just.run(1, 67);
            moves("retract to just its height", just, 5, 5, 1340);
            just.run(2, 1);
            moves("retract above it", just, 5, 5, 1320);
            CraneLimiter twice = Cranes.strong();
            twice.run(1, 68);
            // Boom down to 1341, then retract from there: C(305) is 8610, and 1490 of it are 1282.
            Check.due("both", twice.run(8 + 32, 1), 1);
            Check.due("after both", twice.boom(5), 1282 + 50);
            CraneLimiter order = Cranes.strong();
            order.run(1, 68);
            // Boom down takes the hook along, though extend would have left it room.
            Check.due("boom down and extend", order.run(8 + 16, 1), 1);
            Check.due("the tip", order.boom(4), 1550);
            Check.due("after boom down", order.boom(5), 1341);
        });
    }

    private static void permits(String what, CraneLimiter c, int motion, boolean due) {
        Check.due(what + ": motion " + motion + " is permitted", c.permitted() >> motion & 1, due ? 1 : 0);
        Check.due(what + ": motion " + motion + " is not blocked", c.run(1 << motion, 1), due ? 1 : 0);
        c.undo();
    }

    private static void motionsNotPermitted() {
        Doc.plain("A motion is not permitted in each of these cases:");
        Doc.edge("- hoist up: the tension is 4 or no load is attached, and the height is H - 200; hoist down: height"
                + " and tension are 0; boom up: A is 850; boom down: A is 0; extend: L is 6000; retract: L is 1000.",
                TickEdges::atTheEnds);
        Doc.edge("- the state is CUTOUT, and the motion is hoist up, boom down or extend.", () -> {
            for (int state = 0; state < 4; state++) {
                int due = state == CraneLimiter.CUTOUT ? 255 - 1 - 8 - 16 : 255;
                Check.due("permitted in the state " + state, Cranes.in(state).permitted(), due);
            }
            CraneLimiter c = Cranes.lifting();
            Cranes.level(c, 4000);
            Check.due("a utilization of 1250, but no CUTOUT yet", c.permitted(), 255);
            Check.due("the tick in which it comes", c.run(1 + 8 + 16, 1), 1);
            Check.due("CUTOUT", c.limiter(7), CraneLimiter.CUTOUT);
            int before = c.events();
            Check.due("the tick behind it", c.run(1 + 8 + 16, 1), 0);
            Check.due("three blocked motions", c.events(), before + 3);
            CraneLimiter slack = Cranes.in(CraneLimiter.CUTOUT);
            slack.run(2, 6);
            Check.due("a tension of 2", slack.boom(6), 2);
            Check.due("no longer CUTOUT", slack.limiter(7), CraneLimiter.NORMAL);
        });
        Doc.edge("- the violation after the motion was carried out for one tick would be greater than the present"
                + " one.", TickEdges::greaterViolation);
        Doc.edge("- it is a slew motion, the state is not BYPASSED, and the utilization for the measured net load and"
                + " the rated capacity for L, the measured radius and the slew angle (S + 50) modulo 3600 (slew right)"
                + " or (S + 3550) modulo 3600 (slew left) is at least 1000 and greater than the present utilization.",
                () -> {
                    slewAngleAhead();
                    utilizationAhead();
                });
    }

    private static void atTheEnds() {
        CraneLimiter free = Cranes.strong();
        permits("on the ground without a load", free, 1, false);
        free.run(1, 67);
        permits("below the limit without a load", free, 0, true);
        free.run(1, 1);
        permits("at the limit without a load", free, 0, false);
        permits("at the limit without a load", free, 1, true);
        CraneLimiter c = Cranes.strong();
        c.attach(5000);
        permits("on the ground", c, 1, false);
        permits("on the ground", c, 0, true);
        c.run(1, 1);
        permits("with a tension of 1", c, 1, true);
        c.run(1, 3 + 67);
        permits("below the limit with a load", c, 0, true);
        c.run(1, 1);
        permits("at the limit with a load", c, 0, false);
        // The tip rises from 253 to 254 only: the hook is 1 below the limit.
        CraneLimiter flat = Cranes.at(1140, 2, 0);
        flat.run(1, 3);
        Check.due("the hook under a flat boom", flat.boom(5), 53);
        permits("at the limit of a flat boom", flat, 0, false);
        flat.run(16, 1);
        Check.due("the hook under it still", flat.boom(5), 53);
        permits("1 below the limit", flat, 0, true);
        permits("boom up at 850", Cranes.at(2000, 850, 0), 2, false);
        permits("boom up at 849", Cranes.at(2000, 849, 0), 2, true);
        permits("boom down at 850", Cranes.at(2000, 850, 0), 3, true);
        permits("boom down at 0", Cranes.at(2000, 0, 0), 3, false);
        permits("boom down at 1", Cranes.at(2000, 1, 0), 3, true);
        permits("boom up at 0", Cranes.at(2000, 0, 0), 2, true);
        permits("extend at 6000", Cranes.at(6000, 600, 0), 4, false);
        permits("extend at 5999", Cranes.at(5999, 600, 0), 4, true);
        permits("retract at 6000", Cranes.at(6000, 600, 0), 5, true);
        permits("retract at 1000", Cranes.at(1000, 600, 0), 5, false);
        permits("retract at 1001", Cranes.at(1001, 600, 0), 5, true);
        permits("extend at 1000", Cranes.at(1000, 600, 0), 4, true);
    }

    private static CraneLimiter fenced(int from, int to, int radius, int height) {
        CraneLimiter c = Cranes.strong();
        c.addZone(from, to, radius, height);
        return c;
    }

    private static void greaterViolation() {
        // R0 and H after one tick: boom down 610, boom up 1554, extend 605 and 1557.
        permits("boom down to the radius", fenced(0, 0, 610, 10000), 3, true);
        permits("boom down beyond the radius", fenced(0, 0, 609, 10000), 3, false);
        permits("boom up to the height", fenced(0, 0, 10000, 1554), 2, true);
        permits("boom up beyond the height", fenced(0, 0, 10000, 1553), 2, false);
        permits("extend to the radius", fenced(0, 0, 605, 10000), 4, true);
        permits("extend beyond the radius", fenced(0, 0, 604, 10000), 4, false);
        permits("extend to the height", fenced(0, 0, 10000, 1557), 4, true);
        permits("extend beyond the height", fenced(0, 0, 10000, 1556), 4, false);
        // Slowly the boom goes to 604 only; the speed of the state counts.
        CraneLimiter slow = fenced(0, 0, 604, 10000);
        permits("boom down at full speed", slow, 3, false);
        slow.bypass(9);
        slow.run(0, 1);
        permits("boom down slowly, and BYPASSED", slow, 3, true);
        slow.addZone(0, 0, 603, 10000);
        permits("boom down slowly beyond the radius, and BYPASSED", slow, 3, false);
        // A violation of 100 already: more of it is not permitted, as much or less is.
        CraneLimiter violating = fenced(0, 0, 500, 10000);
        Check.due("a violation of 100", violating.boom(9), 100);
        permits("further out", violating, 3, false);
        permits("further in", violating, 2, true);
        permits("as far", violating, 0, true);
        permits("out of the zone", violating, 6, true);
        CraneLimiter around = fenced(0, 3599, 500, 10000);
        permits("along the zone", around, 6, true);
        permits("along the zone", around, 7, true);
        around.addZone(15, 15, 600, 10000);
        permits("into a zone that is not violated", around, 6, true);
        around.addZone(15, 15, 599, 10000);
        permits("into a zone that is violated by 1", around, 6, false);
        permits("the other way", around, 7, true);
        // From one zone into another one that is violated as much, or more.
        CraneLimiter between = fenced(0, 0, 500, 10000);
        between.addZone(15, 15, 500, 10000);
        between.addZone(3585, 3585, 499, 10000);
        permits("from 100 to 100", between, 6, true);
        permits("from 100 to 101", between, 7, false);
        // Lower by 8, but further out by 10; and the other way round.
        permits("boom down with both", fenced(0, 0, 0, 0), 3, false);
        permits("boom up with both", fenced(0, 0, 0, 0), 2, true);
    }

    /** A crane with 5000 kg, that counts table 1 from 451 to 2249. */
    private static CraneLimiter weakOnTheRight(int slew, int here, int there) {
        CraneLimiter c = Cranes.strong();
        c.setOutrigger(1, 1);
        c.setBoom(1500, 600, slew);
        c.attach(5000);
        c.run(1, 4);
        Cranes.level(c, here);
        Cranes.levelTable(c, 1, there);
        return c;
    }

    private static void slewAngleAhead() {
        permits("400, ahead 450", weakOnTheRight(400, 100000, 100), 6, true);
        permits("401, ahead 451", weakOnTheRight(401, 100000, 100), 6, false);
        permits("401, the other way", weakOnTheRight(401, 100000, 100), 7, true);
        permits("2300, ahead 2250", weakOnTheRight(2300, 100000, 100), 7, true);
        permits("2299, ahead 2249", weakOnTheRight(2299, 100000, 100), 7, false);
        permits("2299, the other way", weakOnTheRight(2299, 100000, 100), 6, true);
        // Table 1 counts from 3151 to 1349 here, over the front.
        int[][] front = {{3100, 6, 1}, {3101, 6, 0}, {1400, 7, 1}, {1399, 7, 0}, {3549, 6, 1}, {3550, 6, 1},
            {3599, 6, 1}, {49, 7, 1}, {50, 7, 1}, {0, 7, 1}};
        for (int[] f : front) {
            CraneLimiter c = Cranes.strong();
            c.setOutrigger(0, 1);
            c.setBoom(1500, 600, f[0]);
            c.attach(5000);
            c.run(1, 4);
            Cranes.levelTable(c, 1, 100);
            permits("from " + f[0], c, f[1], f[2] == 1);
        }
    }

    private static void utilizationAhead() {
        // 5000 kg and 5003, 5000, 4995: utilizations of 999, 1000 and 1001.
        permits("999 ahead", weakOnTheRight(420, 100000, 5003), 6, true);
        permits("1000 ahead", weakOnTheRight(420, 100000, 5000), 6, false);
        permits("1000 ahead, 999 here", weakOnTheRight(420, 5003, 5000), 6, false);
        permits("1000 ahead, 1000 here", weakOnTheRight(420, 5000, 5000), 6, true);
        permits("1001 ahead, 1000 here", weakOnTheRight(420, 5000, 4995), 6, false);
        permits("1000 ahead, 1001 here", weakOnTheRight(420, 4995, 5000), 6, true);
        permits("9999 ahead, 9999 here", weakOnTheRight(420, 0, 0), 6, true);
        permits("9999 ahead", weakOnTheRight(420, 100000, 0), 6, false);
        // Only slew motions look ahead.
        permits("boom down", weakOnTheRight(420, 100000, 0), 3, true);
        CraneLimiter slack = weakOnTheRight(420, 100000, 0);
        slack.run(2, 4);
        permits("no net load", slack, 6, true);
        // In each state but BYPASSED.
        int[] here = {100000, 5555, 5000, 100000};
        for (int state = 0; state < 4; state++) {
            CraneLimiter c = weakOnTheRight(420, here[state], 100);
            c.bypass(state == CraneLimiter.BYPASSED ? 1000 : 0);
            c.run(0, 1);
            Check.due("the state", c.limiter(7), state);
            permits("in the state " + state, c, 6, state == CraneLimiter.BYPASSED);
        }
        CraneLimiter bypassed = weakOnTheRight(420, 100000, 100);
        bypassed.bypass(9);
        permits("a bypass time, but not BYPASSED yet", bypassed, 6, false);
        // A capacity that ends between the radii of 600 and 615, of which the measured one counts.
        CraneLimiter measured = weakOnTheRight(420, 100000, 0);
        measured.setCapacity(1, 0, 0, 100000);
        measured.setCapacity(1, 1, 0, 100000);
        measured.setCapacity(1, 0, 1, 5100);
        measured.setCapacity(1, 1, 1, 5100);
        // 5100 * 385 / 400 is 4908.
        permits("the measured radius", measured, 6, false);
    }

    private static void event(CraneLimiter c, int index, int time, int kind, int value) {
        Check.holds("there is an event " + index, index < c.events());
        if (index < c.events()) {
            Check.due("time of event " + index, c.event(index, 0), time);
            Check.due("kind of event " + index, c.event(index, 1), kind);
            Check.due("value of event " + index, c.event(index, 2), value);
        }
    }

    private static void ticks() {
        Doc.section("STATES AND TICKS");
        Doc.edge("The states are NORMAL (0, at first), WARNING (1), CUTOUT (2) and BYPASSED (3).", () -> {
            Check.due("at first", new CraneLimiter().limiter(7), 0);
            Check.due("NORMAL", CraneLimiter.NORMAL, 0);
            Check.due("WARNING", CraneLimiter.WARNING, 1);
            Check.due("CUTOUT", CraneLimiter.CUTOUT, 2);
            Check.due("BYPASSED", CraneLimiter.BYPASSED, 3);
            Cranes.argument("the state -1", Cranes::busy, c -> c.stateTime(-1));
            Cranes.argument("the state 4", Cranes::busy, c -> c.stateTime(4));
        });
        Doc.edge("There are a time (0 at first) and a bypass time (0 at first).", () -> {
            Check.due("the time", new CraneLimiter().boom(10), 0);
            Check.due("the bypass time", new CraneLimiter().boom(11), 0);
        });
        Doc.plain("In a tick with some commanded motions:");
        Doc.edge("(1) The time increases by 1; if the bypass time is greater than 0, it decreases by 1.", () -> {
            CraneLimiter c = new CraneLimiter();
            c.bypass(2);
            int[] bypassTimes = {1, 0, 0, 0};
            for (int i = 0; i < bypassTimes.length; i++) {
                c.run(0, 1);
                Check.due("the bypass time", c.boom(11), bypassTimes[i]);
                Check.due("the time", c.boom(10), i + 1);
            }
            // The time of a tick is the one after its increase.
            c.run(2, 1);
            event(c, c.events() - 1, 5, CraneLimiter.BLOCKED, 1);
        });
        Doc.edge("(2) The commanded motions are gone through in ascending order.", () -> {
            CraneLimiter c = Cranes.strong();
            c.run(1, 68);
            Check.due("hoist up comes before boom up gives it room", c.run(1 + 4, 1), 0);
            Check.due("the hook", c.boom(5), TOP);
            Check.due("the angle", c.boom(1), 605);
            CraneLimiter all = new CraneLimiter();
            all.setBoom(1000, 0, 0);
            all.addZone(15, 15, 0, 0);
            Check.due("four are blocked", all.run(2 + 8 + 32 + 64, 1), 0);
            int[] order = {1, 3, 5, 6};
            for (int i = 0; i < order.length; i++) {
                event(all, i, 1, CraneLimiter.BLOCKED, order[i]);
            }
        });
        Doc.edge("Each one that is permitted at that moment is carried out for one tick.", () -> {
            // The tip may come up to 1560: boom up takes it to 1554, and extend would then take it higher.
            CraneLimiter room = fenced(0, 0, 10000, 1560);
            permits("extend alone", room, 4, true);
            Check.due("boom up and extend", room.run(4 + 16, 1), 0);
            Check.due("boom up", room.boom(1), 605);
            Check.due("no extend", room.boom(0), 1500);
            // Extend alone takes the tip to 1557, after boom down to 1550.
            CraneLimiter less = fenced(0, 0, 10000, 1550);
            permits("extend alone", less, 4, false);
            Check.due("boom down and extend", less.run(8 + 16, 1), 1);
            Check.due("both", less.boom(0) + less.boom(1), 1510 + 595);
            // The load is taken up in the tick in which the slew looks ahead.
            CraneLimiter load = weakOnTheRight(420, 100000, 3000);
            load.run(2, 2);
            Check.due("a tension of 2", load.boom(6), 2);
            permits("slewing with half of the load", load, 6, true);
            Check.due("hoist up and slew", load.run(1 + 64, 1), 0);
            Check.due("no slew", load.boom(2), 420);
        });
        Doc.edge("Each one that is not permitted is blocked; if it was not blocked in the tick before, an event"
                + " BLOCKED with its number is logged.", TickEdges::blockedMotions);
    }

    private static void blockedMotions() {
        for (int motion = 0; motion < 8; motion++) {
            int[][] ends = {{1500, 600}, {1500, 600}, {2000, 850}, {2000, 0}, {6000, 600}, {1000, 600}, {1500, 600},
                {1500, 600}};
            CraneLimiter c = Cranes.at(ends[motion][0], ends[motion][1], 0);
            if (motion == 0) {
                c.run(1, 68);
            }
            c.addZone(motion < 6 ? 100 : motion == 6 ? 15 : 3585, motion < 6 ? 100 : motion == 6 ? 15 : 3585, 0, 0);
            int time = c.boom(10);
            Check.due("blocked", c.run(1 << motion, 3), 0);
            Check.due("logged once", c.events(), 1);
            event(c, 0, time + 1, CraneLimiter.BLOCKED, motion);
            c.run(1 << motion, 1);
            Check.due("the tick before was of another call", c.events(), 1);
            c.run(0, 1);
            c.run(1 << motion, 1);
            Check.due("a tick without it in between", c.events(), 2);
            event(c, 1, time + 6, CraneLimiter.BLOCKED, motion);
        }
        // Commanded and permitted in the tick before: hoist down on the ground, with a tension of 1, and again.
        CraneLimiter c = Cranes.strong();
        c.attach(5);
        c.run(2, 1);
        c.run(1, 1);
        Check.due("free and then blocked", c.run(2, 2), 1);
        Check.due("two events", c.events(), 2);
        event(c, 1, 4, CraneLimiter.BLOCKED, 1);
        // Each motion by itself: boom up joins one that was blocked already, and leaves.
        CraneLimiter two = Cranes.at(2000, 850, 0);
        two.run(2, 1);
        two.run(2 + 4, 1);
        event(two, 1, 2, CraneLimiter.BLOCKED, 2);
        Check.due("only boom up is new", two.events(), 2);
        two.run(2, 1);
        two.run(2 + 4, 1);
        event(two, 2, 4, CraneLimiter.BLOCKED, 2);
        Check.due("only boom up is new again", two.events(), 3);
        // Other calls are no ticks.
        two.setBoom(2000, 850, 0);
        two.wind(5);
        two.run(2 + 4, 1);
        Check.due("no tick in between", two.events(), 3);
    }

    private static void states() {
        Doc.edge("(3) Let U be the present utilization.", () -> {
            // U is the one after the motions of the tick: with the tension of 4 it is 1000, with 3 it is 749.
            CraneLimiter c = Cranes.strong();
            c.attach(5000);
            Cranes.level(c, 5000);
            c.run(1, 3);
            Check.due("before", c.limiter(6), 749);
            Check.due("still NORMAL", c.limiter(7), CraneLimiter.NORMAL);
            c.run(1, 1);
            Check.due("CUTOUT in the same tick", c.limiter(7), CraneLimiter.CUTOUT);
            c.run(2, 1);
            Check.due("and NORMAL in the one that slackens the rope", c.limiter(7), CraneLimiter.NORMAL);
        });
        Doc.edge("If the bypass time is greater than 0, the new state is BYPASSED.", () -> {
            for (int capacity : new int[] {100000, 5555, 5000, 0}) {
                CraneLimiter c = Cranes.lifting();
                Cranes.level(c, capacity);
                c.bypass(1);
                c.run(0, 1);
                Check.holds("a bypass time of 1 is over in the tick", c.limiter(7) != CraneLimiter.BYPASSED);
                c.bypass(2);
                c.run(0, 1);
                Check.due("a bypass time of 2", c.limiter(7), CraneLimiter.BYPASSED);
                c.run(0, 1);
                Check.holds("is over in the second tick", c.limiter(7) != CraneLimiter.BYPASSED);
            }
        });
        // 5000 kg and these capacities make utilizations of 849, 850, 899, 900, 949, 950, 999, 1000 and 9999.
        int u849 = 5883, u850 = 5882, u899 = 5556, u900 = 5555, u949 = 5264, u950 = 5263, u999 = 5003, u1000 = 5000;
        Doc.edge("Otherwise it is CUTOUT if U is at least 1000, or if the state is CUTOUT and U is at least 950;",
                () -> {
                    for (int state = 0; state < 4; state++) {
                        becomes(state, u1000, CraneLimiter.CUTOUT);
                        becomes(state, 0, CraneLimiter.CUTOUT);
                        boolean held = state == CraneLimiter.CUTOUT;
                        becomes(state, u999, held ? CraneLimiter.CUTOUT : CraneLimiter.WARNING);
                        becomes(state, u950, held ? CraneLimiter.CUTOUT : CraneLimiter.WARNING);
                        becomes(state, u949, CraneLimiter.WARNING);
                    }
                });
        Doc.edge("otherwise WARNING if U is at least 900, or if the state is WARNING or CUTOUT and U is at least 850;",
                () -> {
                    for (int state = 0; state < 4; state++) {
                        becomes(state, u900, CraneLimiter.WARNING);
                        boolean held = state == CraneLimiter.WARNING || state == CraneLimiter.CUTOUT;
                        becomes(state, u899, held ? CraneLimiter.WARNING : CraneLimiter.NORMAL);
                        becomes(state, u850, held ? CraneLimiter.WARNING : CraneLimiter.NORMAL);
                    }
                });
        Doc.edge("otherwise NORMAL.", () -> {
            for (int state = 0; state < 4; state++) {
                becomes(state, u849, CraneLimiter.NORMAL);
                becomes(state, 100000, CraneLimiter.NORMAL);
            }
            CraneLimiter free = new CraneLimiter();
            free.run(0, 1);
            Check.due("no net load, no capacity", free.limiter(7), CraneLimiter.NORMAL);
        });
        Doc.edge("If the state changes, an event STATE with the new state is logged; if the new state is CUTOUT then,"
                + " also an event OVERLOAD with U.", TickEdges::stateEvents);
    }

    /** One tick from a state, with a capacity for 5000 kg. */
    private static void becomes(int state, int capacity, int due) {
        CraneLimiter c = Cranes.in(state);
        // With a bypass time of 1 the tick ends it.
        c.bypass(state == CraneLimiter.BYPASSED ? 1 : 0);
        Check.due("from " + state + " with " + capacity, Cranes.tickAt(c, capacity), due);
    }

    private static void stateEvents() {
        CraneLimiter c = Cranes.lifting();
        Cranes.tickAt(c, 5555);
        Cranes.tickAt(c, 5555);
        Check.due("a change is logged, no change is not", c.events(), 1);
        Cranes.tickAt(c, 5000);
        Check.due("a change to CUTOUT makes two events", c.events(), 3);
        Cranes.tickAt(c, 2500);
        Cranes.tickAt(c, 5263);
        Check.due("CUTOUT stays", c.events(), 3);
        c.bypass(2);
        Cranes.tickAt(c, 2500);
        Cranes.tickAt(c, 0);
        Check.due("to BYPASSED and back", c.events(), 6);
        Cranes.tickAt(c, 5555);
        Cranes.tickAt(c, 100000);
        int[][] due = {{5, 1, 1}, {7, 1, 2}, {7, 2, 1000}, {10, 1, 3}, {11, 1, 2}, {11, 2, 9999}, {12, 1, 1},
            {13, 1, 0}};
        for (int i = 0; i < due.length; i++) {
            event(c, i, due[i][0], due[i][1], due[i][2]);
        }
        Check.due("no more events", c.events(), due.length);
        // All kinds in one tick: blocked first, the state, the overload.
        CraneLimiter all = Cranes.at(2000, 850, 0);
        all.attach(5000);
        all.run(1, 3);
        Cranes.level(all, 0);
        all.run(1 + 4, 1);
        event(all, 0, 4, CraneLimiter.BLOCKED, 2);
        event(all, 1, 4, CraneLimiter.STATE, CraneLimiter.CUTOUT);
        event(all, 2, 4, CraneLimiter.OVERLOAD, 9999);
        all.run(2, 4);
        event(all, 3, 8, CraneLimiter.STATE, CraneLimiter.NORMAL);
        event(all, 4, 8, CraneLimiter.LIFT, 7);
    }

    private static void lifts() {
        Doc.edge("(4) The time in the (new) state increases by 1.", () -> {
            CraneLimiter c = Cranes.lifting();
            Cranes.tickAt(c, 5555);
            Check.due("the new state", c.stateTime(CraneLimiter.WARNING), 1);
            Check.due("not the old one", c.stateTime(CraneLimiter.NORMAL), 4);
            Cranes.tickAt(c, 5555);
            Check.due("the same state", c.stateTime(CraneLimiter.WARNING), 2);
            Check.due("no other", c.stateTime(CraneLimiter.CUTOUT) + c.stateTime(CraneLimiter.BYPASSED), 0);
        });
        Doc.edge("If the tension was less than 4 before this tick and is 4 now, and no lift is in progress, a lift"
                + " begins, with a greatest utilization of 0.", () -> {
                    CraneLimiter c = Cranes.strong();
                    c.attach(5000);
                    c.run(1, 3);
                    c.run(2, 3);
                    Check.due("a tension of 3 begins none", c.spectrum(), CraneLimiter.NONE);
                    c.run(1, 4);
                    c.run(2, 4);
                    Check.due("a tension of 4 does", c.lifts(0), 1);
                    // In progress: the tension of 3 and 4 again begins no second lift and keeps the greatest one.
                    CraneLimiter kept = Cranes.lifting();
                    Cranes.tickAt(kept, 5003);
                    Cranes.level(kept, 100000);
                    kept.run(2, 1);
                    kept.run(1, 1);
                    kept.run(2, 4);
                    Check.due("one lift of the greatest utilization", kept.lifts(7), 1);
                    Check.due("and no other", kept.lifts(0), 0);
                    // A new lift begins with 0 again.
                    kept.run(1, 4);
                    kept.run(2, 4);
                    Check.due("the next lift", kept.lifts(0), 1);
                });
        Doc.edge("If a lift is in progress, its greatest utilization becomes the greater one of itself and U;",
                () -> {
                    // The tick in which the lift begins counts, later ones and less of it too.
                    liftOf("the first tick alone", 5000, 5003, 100000, 7);
                    liftOf("a later tick", 5000, 100000, 5003, 7);
                    liftOf("both", 5000, 8000, 5003, 7);
                    liftOf("the greater one first", 5000, 8000, 10000, 5);
                    CraneLimiter c = Cranes.strong();
                    c.attach(5000);
                    // No lift is in progress yet with a utilization of 749.
                    Cranes.level(c, 5000);
                    c.run(1, 3);
                    Cranes.level(c, 100000);
                    c.run(1, 1);
                    c.run(2, 4);
                    Check.due("the ticks before it do not count", c.lifts(0), 1);
                });
        Doc.edge("if the tension is 0 now, the lift ends: its class is the smaller one of 7 and floor((greatest"
                + " utilization) / 125), the number of lifts of this class increases by 1, and an event LIFT with the"
                + " class is logged.", () -> {
                    // Utilizations of 124, 125, 249, 250, 874, 875, 999, 1000 and 9999.
                    int[][] classes = {{40001, 0}, {40000, 1}, {20001, 1}, {20000, 2}, {5715, 6}, {5714, 7},
                        {5003, 7}, {5000, 7}, {100, 7}, {0, 7}};
                    for (int[] f : classes) {
                        liftOf("with a capacity of " + f[0], 5000, 100000, f[0], f[1]);
                    }
                    CraneLimiter c = Cranes.lifting();
                    c.run(2, 3);
                    Check.due("a tension of 1 ends none", c.events(), 0);
                    c.run(2, 1);
                    Check.due("one event", c.events(), 1);
                    event(c, 0, 8, CraneLimiter.LIFT, 0);
                    c.run(0, 1);
                    Check.due("no lift ends twice", c.lifts(0), 1);
                });
        Doc.edge("The log keeps the latest 30 events.", () -> {
            for (int count = 29; count <= 32; count++) {
                CraneLimiter c = Cranes.withEvents(count);
                int kept = Math.min(30, count);
                Check.due("the events of " + count, c.events(), kept);
                Check.due("the oldest one", c.event(0, 0), 2 * (count - kept) + 1);
                Check.due("the latest one", c.event(kept - 1, 0), 2 * count - 1);
                Cranes.index("behind it", () -> Cranes.withEvents(31), x -> x.event(30, 0));
            }
        });
        Doc.edge("An event has a time, a kind and a value.", () -> {
            CraneLimiter c = Cranes.withEvents(1);
            event(c, 0, 1, CraneLimiter.BLOCKED, 1);
            Cranes.argument("a part before the time", () -> Cranes.withEvents(1), x -> x.event(0, -1));
            Cranes.argument("a part behind the value", () -> Cranes.withEvents(1), x -> x.event(0, 3));
        });
    }

    /** A lift with one capacity in the tick that begins it, and another one in the next tick. */
    private static void liftOf(String what, int mass, int first, int second, int due) {
        CraneLimiter c = Cranes.strong();
        c.attach(mass);
        // The bypass keeps the cut-out from stopping the lift.
        c.bypass(6);
        c.run(1, 3);
        Cranes.level(c, first);
        c.run(1, 1);
        Cranes.tickAt(c, second);
        Cranes.level(c, 100000);
        c.run(2, 4);
        for (int i = 0; i < 8; i++) {
            Check.due(what + ": lifts of class " + i, c.lifts(i), i == due ? 1 : 0);
        }
        event(c, c.events() - 1, c.boom(10), CraneLimiter.LIFT, due);
    }

    private static void ticks(String script, int due) {
        CraneLimiter c = Cranes.withText(script);
        Check.due("the ticks of \"" + script + "\"", c.runScript(), due);
        Check.due("the time after \"" + script + "\"", c.boom(10), due);
        Check.due("saved by \"" + script + "\"", c.undo(), 0);
    }

    static void fault(String script, int due) {
        CraneLimiter c = Cranes.withText(script);
        Check.due("the answer to \"" + script + "\"", c.runScript(), -10 - due);
        Check.due("nothing is done by \"" + script + "\"", c.digest(), Cranes.withText(script).digest());
    }

    private static void scripts() {
        Doc.section("SCRIPTS");
        Doc.edge("The text has at most 80 bytes.", () -> {
            CraneLimiter c = Cranes.withText(" ".repeat(79));
            Check.due("byte 80", c.type('w'), 80);
            Check.due("a text of 80 bytes", c.runScript(), -10 - 80);
            Cranes.state("byte 81", () -> Cranes.withText("w1;".repeat(26) + "  "), x -> x.type(' '));
        });
        Doc.edge("A script consists of orders, each with a semicolon behind it.", () -> {
            ticks("w1;", 1);
            ticks("w1;w2;w3;", 6);
            ticks("w1;".repeat(26), 26);
            fault("w1", 2);
            fault("w1;w1", 5);
            fault("w1w1;", 2);
            fault("w1,", 2);
            fault("w1:", 2);
            fault("w1<", 2);
            fault("w1;;", 3);
            fault(";", 0);
        });
        Doc.edge("An order is a letter h, b, e or s, a sign + or -, and a number: so many ticks with the motion hoist"
                + " up or down, boom up or down, extend or retract, slew right or left;", TickEdges::orders);
        Doc.edge("or the letter w and a number: so many ticks without motions.", () -> {
            ticks("w1;", 1);
            ticks("w99;", 99);
            fault("w+1;", 1);
            fault("w-1;", 1);
            fault("w;", 1);
            CraneLimiter c = Cranes.at(6000, 850, 0);
            Cranes.text(c, "w3;");
            c.runScript();
            Check.due("nothing is blocked", c.events(), 0);
            Check.due("the length", c.boom(0), 6000);
        });
        Doc.edge("A number has one or two digits and is at least 1.", () -> {
            int[] numbers = {1, 2, 9, 10, 11, 19, 20, 90, 98, 99};
            for (int number : numbers) {
                ticks("w" + number + ";", number);
                ticks("s+" + number + ";", number);
            }
            ticks("w01;", 1);
            ticks("w09;", 9);
            fault("w0;", 2);
            fault("w00;", 3);
            fault("w100;", 3);
            fault("w001;", 3);
            fault("w;", 1);
            fault("s-;", 2);
        });
        Doc.edge("Blanks (32) may stand anywhere but within a number.", () -> {
            ticks(" w1;", 1);
            ticks("w 1;", 1);
            ticks("w1 ;", 1);
            ticks("w1; ", 1);
            ticks("   s   +   12   ;   w   3   ;   ", 15);
            fault("w1 2;", 3);
            fault("w1  2;", 4);
            fault("s+1 0;", 4);
            fault("w12 3;", 4);
            for (char other : new char[] {0, 9, 10, 13, 31, 33, 127}) {
                fault(other + "w1;", 0);
                fault("w" + other + "1;", 1);
                fault("w1" + other + ";", 2);
                fault("w1;" + other, 3);
                fault("s" + other + "+1;", 1);
                fault("s+" + other + "1;", 2);
                fault("w1 " + other + ";", 3);
            }
        });
        Doc.edge("A script may have no orders.", () -> {
            CraneLimiter c = Cranes.withText("w1;w2;w3;");
            c.runScript();
            c.clearText();
            Check.due("no orders behind a script with some", c.runScript(), 0);
            Cranes.text(c, "w4;");
            Check.due("fewer orders behind a script with more", c.runScript(), 4);
            ticks("", 0);
            ticks(" ", 0);
            ticks(" ".repeat(80), 0);
        });
        faultsOfScripts();
    }

    private static void orders() {
        String[] orders = {"h+", "h-", "b+", "b-", "e+", "e-", "s+", "s-"};
        for (int motion = 0; motion < 8; motion++) {
            for (int number : new int[] {1, 2, 99}) {
                // Blocked motions too: the texts are alike, so that the digests are.
                String text = orders[motion] + number + ";";
                CraneLimiter byScript = Cranes.text(Cranes.lifting(), text);
                CraneLimiter byRun = Cranes.text(Cranes.lifting(), text);
                byScript.run(1, 60);
                byRun.run(1, 60);
                Check.due(text, byScript.runScript(), number);
                byRun.run(1 << motion, number);
                Check.due("the crane after " + text, byScript.digest(), byRun.digest());
            }
        }
        // The bytes next to the letters and the signs, capitals, and orders that lack a part.
        for (char other : "acdfgirtvxHBESW+-0{`".toCharArray()) {
            fault(other + "+1;", 0);
        }
        for (char other : "*,./0h=_".toCharArray()) {
            fault("h" + other + "1;", 1);
            fault("b" + other + "1;", 1);
        }
        for (char other : "/:+-h".toCharArray()) {
            fault("e-" + other + ";", 2);
        }
        fault("h1;", 1);
        fault("s;", 1);
        fault("h++1;", 2);
    }

    private static void faultsOfScripts() {
        Doc.edge("The script is read from left to right.", () -> {
            fault("x;y", 0);
            fault("w1;x;y", 3);
            fault("w1;w0;x", 5);
            fault("w1;h+99;s-1;q", 12);
        });
        Doc.edge("The fault of a script is at the first byte that is not allowed at its place, which may be a digit"
                + " too many;", () -> {
                    fault("w123;", 3);
                    fault("w1234;", 3);
                    fault("h+100;", 4);
                    fault("h+999;", 4);
                    fault("h+12x", 4);
                    fault("w12 3;", 4);
                    fault("w1x", 2);
                    fault("#", 0);
                    fault("w1;".repeat(26) + " #", 79);
                });
        Doc.edge("a number that is 0 has its fault at the first byte behind its digits.", () -> {
            fault("w0;", 2);
            fault("w00;", 3);
            fault("w000;", 3);
            fault("w0 ;", 2);
            fault("w0 1;", 2);
            fault("w00 ;", 3);
            fault("s-0x", 3);
            fault("s-0", 3);
            fault("s-00", 4);
            ticks("w05;", 5);
            ticks("w50;", 50);
        });
        Doc.edge("If the script ends too early, the fault is at its length.", () -> {
            String[] beginnings = {"h", "h ", "h+", "h+ ", "h+1", "h+12", "h+1 ", "h+0", "h+00", "w", "w ", "w1",
                "w1;s", "w1; s -  9 "};
            for (String s : beginnings) {
                fault(s, s.length());
            }
            fault(" ".repeat(79) + "w", 80);
            fault("w1;".repeat(26) + "w1", 80);
            ticks("w1;".repeat(25) + "w99; ", 25 + 99);
        });
    }

    private static void undo() {
        Doc.section("UNDO");
        Doc.edge("Every method that is marked \"undoable\" saves everything but the text on an undo stack when it ends"
                + " normally, also if it changes nothing.", () -> {
                    // With a change and without one.
                    Cranes.undoable("setOutrigger", Cranes::busy, c -> c.setOutrigger(3, 1));
                    Cranes.undoable("setOutrigger as it is", Cranes::busy, c -> c.setOutrigger(3, 2));
                    Cranes.undoable("setOnWheels", Cranes::busy, c -> c.setOnWheels(true));
                    Cranes.undoable("setCapacity", Cranes::busy, c -> c.setCapacity(2, 0, 0, 5));
                    Cranes.undoable("setCapacity as it is", Cranes::busy, c -> c.setCapacity(0, 3, 5, 77));
                    Cranes.undoable("fillTable", Cranes::busy, c -> c.fillTable(2, 5));
                    Cranes.undoable("fillTable as it is", Cranes::busy, c -> c.fillTable(2, 10000));
                    Cranes.undoable("addZone", Cranes::busy, c -> c.addZone(0, 1, 2, 3));
                    Cranes.undoable("removeZone", Cranes::busy, c -> c.removeZone(0));
                    Cranes.undoable("wind", Cranes::busy, c -> c.wind(1000));
                    Cranes.undoable("setTare", Cranes::busy, c -> c.setTare(2000));
                    Cranes.undoable("setTare as it is", Cranes::busy, c -> c.setTare(300));
                    Cranes.undoable("bypass", Cranes::busy, c -> c.bypass(0));
                    Cranes.undoable("bypass as it is", Cranes::busy, c -> c.bypass(c.boom(11)));
                    Cranes.undoable("run", Cranes::busy, c -> c.run(2 + 8 + 32 + 64, 100));
                    Cranes.undoable("run without motions", Cranes::busy, c -> c.run(0, 1));
                    Cranes.undoable("setBoom", CraneLimiter::new, c -> c.setBoom(1000, 0, 1));
                    Cranes.undoable("setBoom as it is", CraneLimiter::new, c -> c.setBoom(1500, 600, 0));
                    Cranes.undoable("attach", CraneLimiter::new, c -> c.attach(5));
                    Cranes.undoable("attach as it is", CraneLimiter::new, c -> c.attach(0));
                    Cranes.undoable("runScript", () -> Cranes.text(Cranes.busy(), "h-9;b-9;w1;"), c -> c.runScript());
                    Cranes.undoable("runScript without orders", () -> Cranes.text(Cranes.busy(), ""),
                            c -> c.runScript());
                    // A full log, whose oldest events the call drops for some of other kinds and values.
                    Cranes.undoable("run with a full log", () -> {
                        CraneLimiter c = Cranes.withEvents(40);
                        c.setBoom(1000, 0, 0);
                        c.bypass(2);
                        return c;
                    }, c -> c.run(2 + 8 + 32, 2));
                    CraneLimiter text = Cranes.withText("w1;");
                    text.setTare(1);
                    text.type(' ');
                    text.undo();
                    Check.due("the text stays as it is", text.clearText(), 4);
                });
        Doc.edge("The saved state is the one from before the call.", () -> {
            CraneLimiter c = new CraneLimiter();
            c.setTare(7);
            c.setTare(8);
            c.undo();
            Check.due("before the second call", c.setTare(9), 7);
            c.undo();
            c.undo();
            Check.due("before the first one", c.setTare(9), 200);
        });
        Doc.edge("The stack keeps the latest 4 saved states and drops older ones.", () -> {
            for (int saved = 0; saved <= 10; saved++) {
                CraneLimiter c = new CraneLimiter();
                for (int i = 1; i <= saved; i++) {
                    c.bypass(i);
                }
                int kept = Math.min(saved, 4);
                for (int left = kept - 1; left >= 0; left--) {
                    Check.due("states left of " + saved, c.undo(), left);
                    Check.due("the bypass time", c.boom(11), saved - kept + left);
                }
                Check.thrown("undo of an empty stack", IllegalStateException.class, () -> c.undo());
                Check.due("the oldest state that is kept", c.boom(11), saved - kept);
            }
        });
    }

    private static void exceptions() {
        Doc.section("EXCEPTIONS");
        Doc.edge("A call that throws an exception changes nothing.", () -> {
            CraneLimiter c = Cranes.busy();
            // What the busy crane has, so that a call could change it.
            Check.due("the tension", c.boom(6), 4);
            Check.due("the state", c.limiter(7), CraneLimiter.BYPASSED);
            Check.due("the bypass time", c.boom(11), 24);
            Check.due("the wind", c.limiter(4), 130);
            Check.due("lifts", c.lifts(2), 1);
            Check.due("the angle", c.boom(1), 650);
            Check.due("blocked", c.event(c.events() - 1, 2), 2);
            Check.due("the states", c.stateTime(0) * 100 + c.stateTime(1), 1203);
            Cranes.argument("run", Cranes::busy, x -> x.run(3, 1));
            Cranes.index("setCapacity", Cranes::busy, x -> x.setCapacity(0, 0, 6, 5));
            Cranes.state("setBoom", Cranes::busy, x -> x.setBoom(1000, 0, 0));
            Cranes.state("undo", CraneLimiter::new, x -> x.undo());
        });
        Doc.edge("If several exceptions of a method apply, the one that is listed first is thrown.", () -> {
            Cranes.index("setOutrigger", Cranes::busy, x -> x.setOutrigger(4, 3));
            Cranes.index("setCapacity", Cranes::busy, x -> x.setCapacity(0, 0, 6, -1));
            Cranes.index("fillTable", Cranes::busy, x -> x.fillTable(4, -1));
            Cranes.argument("addZone", () -> Cranes.withZones(6), x -> x.addZone(0, 0, 0, 10001));
            Cranes.argument("setBoom", Cranes::busy, x -> x.setBoom(1000, 0, 3600));
            Cranes.argument("attach", Cranes::busy, x -> x.attach(100001));
            Cranes.index("event", Cranes::busy, x -> x.event(30, 3));
            Cranes.argument("type", () -> Cranes.withText(" ".repeat(80)), x -> x.type(128));
        });
        Doc.edge("NONE is returned only if no exception applies.", () -> {
            Check.due("maxRadius without a capacity", new CraneLimiter().maxRadius(1), CraneLimiter.NONE);
            Cranes.argument("maxRadius of 0 without a capacity", CraneLimiter::new, x -> x.maxRadius(0));
            Cranes.argument("maxRadius of 100001", CraneLimiter::new, x -> x.maxRadius(100001));
        });
        Doc.section("The constants");
        Doc.edge("- `NONE = -1`: Returned where there is no such value.", () -> {
            Check.due("NONE", CraneLimiter.NONE, -1);
            Check.due("no radius", new CraneLimiter().maxRadius(1), -1);
            Check.due("no lift", new CraneLimiter().spectrum(), -1);
        });
        Doc.plain("The constructor and the methods follow, a promise each: the signature, then what it does.");
    }
}
