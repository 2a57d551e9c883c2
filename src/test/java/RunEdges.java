import java.util.Arrays;

/** The boundaries in the promises 14 to 31: motions, values, planning, log, statistics, scripts, undo and digest. */
final class RunEdges {
    private static final int BIG = Cranes.BIG, SMALL = Cranes.SMALL;

    private RunEdges() {
    }

    static void run() {
        runTicks();
        permitted();
        predicted();
        boom();
        limiter();
        rated();
        maxRadius();
        worstSlew();
        events();
        event();
        stateTime();
        lifts();
        spectrum();
        type();
        clearText();
        runScript();
        undo();
        digest();
    }

    private static boolean hasOpposites(int motions) {
        return (motions & 3) == 3 || (motions & 12) == 12 || (motions & 48) == 48 || (motions & 192) == 192;
    }

    private static void runTicks() {
        Doc.section("Promise 14");
        Doc.edge("Lets ticks pass, with the same commanded motions in each.", () -> {
            CraneLimiter c = Cranes.strong();
            Check.due("three ticks", c.run(1 + 64, 3), 3);
            Check.due("the time", c.boom(10), 3);
            Check.due("the height", c.boom(5), 60);
            Check.due("the slew angle", c.boom(2), 45);
            c.run(0, 4);
            Check.due("the time", c.boom(10), 7);
            Check.due("no motion is left", c.boom(5), 60);
        });
        Doc.edge("Undoable.", () -> {
            Cranes.undoable("one tick", Cranes::busy, c -> c.run(0, 1));
            Cranes.undoable("all ticks", Cranes::busy, c -> c.run(1 + 8 + 32 + 128, 100));
            Cranes.undoable("blocked ticks", Cranes::busy, c -> c.run(4 + 16, 100));
        });
        Doc.edge("- `motions`: bit mask of motions, 0 to 255, never both of 0 and 1, of 2 and 3, of 4 and 5, or of 6"
                + " and 7", () -> {
                    int free = 0;
                    for (int motions = 0; motions <= 255; motions++) {
                        int mask = motions;
                        if (hasOpposites(motions)) {
                            Check.thrown("run of " + mask, IllegalArgumentException.class,
                                    () -> new CraneLimiter().run(mask, 1));
                        } else {
                            free++;
                            CraneLimiter c = Cranes.strong();
                            c.attach(5);
                            c.run(1, 1);
                            Check.due("run of " + mask, c.run(mask, 1), 1);
                        }
                    }
                    Check.due("masks without opposites", free, 81);
                    for (int wrong : new int[] {-1, 256, 3, 12, 48, 192, 255}) {
                        Cranes.argument("run of " + wrong, Cranes::busy, c -> c.run(wrong, 1));
                    }
                });
        Doc.edge("- `ticks`: 1 to 100", () -> {
            for (int ticks : new int[] {1, 2, 99, 100}) {
                CraneLimiter c = new CraneLimiter();
                Check.due("run for " + ticks, c.run(0, ticks), ticks);
                Check.due("the time", c.boom(10), ticks);
            }
            Cranes.argument("0", Cranes::busy, c -> c.run(0, 0));
            Cranes.argument("101", Cranes::busy, c -> c.run(0, 101));
        });
        Doc.edge("Returns the number of these ticks in which no motion was blocked.", () -> {
            CraneLimiter c = Cranes.strong();
            Check.due("none is free", c.run(2, 100), 0);
            Check.due("all are free", c.run(64, 100), 100);
            Check.due("68 of them are free", c.run(1, 100), 68);
            Check.due("one of two motions is blocked", c.run(1 + 128, 10), 0);
            Check.due("no motion", c.run(0, 1), 1);
            CraneLimiter two = Cranes.at(1020, 15, 0);
            // Boom down ends after three ticks, retract after two.
            Check.due("both are free", two.run(8 + 32, 5), 2);
        });
        Doc.edge("Throws `IllegalArgumentException` if an argument is out of range, or motions contains both of two"
                + " such motions", () -> {
                    for (int wrong : Cranes.beyond(0, 255)) {
                        Cranes.argument("motions " + wrong, Cranes::busy, c -> c.run(wrong, 1));
                    }
                    for (int wrong : new int[] {3, 12, 48, 192, 7, 67, 13, 76, 49, 52, 193, 200, 63, 252, 254, 259}) {
                        Cranes.argument("motions " + wrong, Cranes::busy, c -> c.run(wrong, 1));
                    }
                    for (int wrong : Cranes.beyond(1, 100)) {
                        Cranes.argument("ticks " + wrong, Cranes::busy, c -> c.run(1, wrong));
                        Cranes.argument("both", Cranes::busy, c -> c.run(3, wrong));
                    }
                });
    }

    private static void permitted() {
        Doc.section("Promise 15");
        Doc.edge("Returns the motions that are permitted now.", () -> {
            CraneLimiter[] cranes = {Cranes.busy(), Cranes.in(0), Cranes.in(1), Cranes.in(2), Cranes.in(3),
                new CraneLimiter(), Cranes.at(1000, 0, 0), Cranes.at(6000, 850, 3599), Cranes.withZones(6)};
            for (int i = 0; i < cranes.length; i++) {
                int mask = cranes[i].permitted();
                for (int motion = 0; motion < 8; motion++) {
                    int free = cranes[i].run(1 << motion, 1);
                    Check.due("motion " + motion + " of crane " + i, mask >> motion & 1, free);
                    cranes[i].undo();
                }
            }
            Cranes.question("permitted", c -> c.permitted());
        });
        Doc.edge("Returns a bit mask.", () -> {
            Check.due("all of them", Cranes.in(CraneLimiter.NORMAL).permitted(), 255);
            Check.due("all but 1", new CraneLimiter().permitted(), 253);
            Check.due("without 1, 3 and 5", Cranes.at(1000, 0, 0).permitted(), 255 - 2 - 8 - 32);
            Check.due("without 1, 2 and 4", Cranes.at(6000, 850, 0).permitted(), 255 - 2 - 4 - 16);
            CraneLimiter fenced = Cranes.at(1000, 0, 0);
            fenced.addZone(0, 0, 850, 250);
            fenced.addZone(1, 3599, 0, 0);
            Check.due("hoist up alone", fenced.permitted(), 1);
            fenced.run(1, 100);
            Check.due("hoist down alone", fenced.permitted(), 2);
            CraneLimiter none = Cranes.holding(1000, 0, 0, 5000);
            none.addZone(0, 0, 850, 250);
            none.addZone(1, 3599, 0, 0);
            none.run(1, 3);
            Cranes.level(none, 0);
            none.run(0, 1);
            Check.due("hoist down alone, with a load", none.permitted(), 2);
        });
    }

    private static void predicted() {
        Doc.section("Promise 16");
        Doc.edge("Returns the utilization that there would be after a motion was carried out for one tick, whether it"
                + " is permitted or not.", () -> {
                    for (int state = 0; state < 4; state++) {
                        CraneLimiter c = Cranes.in(state);
                        c.fillTable(2, 6000);
                        for (int motion = 0; motion < 8; motion++) {
                            int due = c.predicted(motion);
                            if (c.run(1 << motion, 1) == 1) {
                                Check.due("predicted(" + motion + ") in " + state, due, c.limiter(6));
                            }
                            c.undo();
                        }
                    }
                    // Not permitted: CUTOUT, the end of the range, the end of the rope.
                    CraneLimiter cut = Cranes.in(CraneLimiter.CUTOUT);
                    cut.fillTable(2, 6000);
                    CraneLimiter bypassed = Cranes.in(CraneLimiter.BYPASSED);
                    bypassed.fillTable(2, 6000);
                    for (int motion = 0; motion < 8; motion++) {
                        Check.due("as slow, and permitted", cut.predicted(motion), bypassed.predicted(motion));
                    }
                    CraneLimiter steep = Cranes.holding(1500, 850, 0, 5000);
                    steep.fillTable(2, 6000);
                    Check.due("boom up at 850", steep.predicted(2), steep.limiter(6));
                    CraneLimiter flat = Cranes.holding(1500, 0, 0, 5000);
                    flat.fillTable(2, 6000);
                    Check.due("boom down at 0", flat.predicted(3), flat.limiter(6));
                    CraneLimiter shortest = Cranes.holding(1000, 600, 0, 5000);
                    shortest.fillTable(2, 6000);
                    Check.due("retract at 1000", shortest.predicted(5), shortest.limiter(6));
                    CraneLimiter longest = Cranes.holding(6000, 800, 0, 5000);
                    longest.fillTable(2, 6000);
                    Check.due("extend at 6000", longest.predicted(4), longest.limiter(6));
                    Check.due("hoist up with a tight rope", longest.predicted(0), longest.limiter(6));
                    predictedSlack();
                    Cranes.question("predicted", c -> {
                        for (int motion = 0; motion < 8; motion++) {
                            c.predicted(motion);
                        }
                    });
                });
        Doc.edge("- `motion`: 0 to 7", () -> {
            CraneLimiter c = Cranes.lifting();
            Cranes.level(c, 5000);
            Check.due("0", c.predicted(0), 1000);
            Check.due("7", c.predicted(7), 1000);
            Cranes.argument("-1", Cranes::busy, x -> x.predicted(-1));
            Cranes.argument("8", Cranes::busy, x -> x.predicted(8));
        });
        Doc.edge("Returns the utilization.", () -> {
            Check.due("0 without a load", new CraneLimiter().predicted(1), 0);
            CraneLimiter c = Cranes.lifting();
            Cranes.level(c, 0);
            Check.due("9999 without a capacity", c.predicted(6), 9999);
            Cranes.level(c, 500);
            Check.due("9999 at most", c.predicted(6), 9999);
            c.run(2, 4);
            Check.due("a slack rope", c.predicted(2), 0);
        });
        Doc.edge("Throws `IllegalArgumentException` if there is no such motion", () -> {
            for (int wrong : Cranes.beyond(0, 7)) {
                Cranes.argument("motion " + wrong, Cranes::busy, c -> c.predicted(wrong));
            }
        });
    }

    private static void predictedSlack() {
        CraneLimiter c = Cranes.strong();
        c.attach(5000);
        Cranes.level(c, 5000);
        // Net loads of 1249, 2499, 3749 and 5000 for one to four quarters.
        int[] due = {249, 499, 749, 1000, 1000};
        for (int tension = 0; tension <= 4; tension++) {
            Check.due("hoist up at " + tension, c.predicted(0), due[tension]);
            Check.due("hoist down at " + tension, c.predicted(1), tension < 2 ? 0 : due[tension - 2]);
            c.bypass(9);
            c.run(1, 1);
        }
        CraneLimiter slow = Cranes.in(CraneLimiter.BYPASSED);
        slow.fillTable(2, 6000);
        CraneLimiter fast = Cranes.in(CraneLimiter.NORMAL);
        fast.fillTable(2, 6000);
        // At full speed 10 cm are 600 to 610, slowly 4 cm are 600 to 604.
        Check.holds("the speed of the state", slow.predicted(3) < fast.predicted(3));
    }

    /** A crane whose boom(0) to boom(11) are all different. */
    private static CraneLimiter telling() {
        CraneLimiter c = Cranes.holding(1500, 600, 3599, 5000);
        c.run(1, 2);
        c.addZone(3599, 3599, 590, 1500);
        c.bypass(55);
        return c;
    }

    private static void boom() {
        Doc.section("Promise 17");
        Doc.edge("Returns a value of the crane.", () -> Cranes.question("boom", c -> {
            for (int what = 0; what < 12; what++) {
                c.boom(what);
            }
        }));
        Doc.edge("- `what`: 0 L, 1 A, 2 S, 3 R0, 4 H, 5 height of the hook, 6 tension, 7 mass of the load (0 without"
                + " one), 8 pressure, 9 violation, 10 time, 11 bypass time", () -> {
                    int[] due = {1500, 600, 3599, 600, 1549, 40, 4, 5000, 8856, 59, 6, 55};
                    CraneLimiter c = telling();
                    for (int what = 0; what < due.length; what++) {
                        Check.due("boom(" + what + ")", c.boom(what), due[what]);
                    }
                    // The first of these ticks goes at full speed, the other ones slowly.
                    c.run(2, 7);
                    c.attach(0);
                    Check.due("without a load", c.boom(7), 0);
                    Cranes.argument("-1", Cranes::busy, x -> x.boom(-1));
                    Cranes.argument("12", Cranes::busy, x -> x.boom(12));
                });
        Doc.edge("Returns that value.", () -> {
            CraneLimiter most = Cranes.at(6000, 850, 3599);
            int[] due = {6000, 850, 3599, 370, 6204};
            for (int what = 0; what < due.length; what++) {
                Check.due("boom(" + what + ") at most", most.boom(what), due[what]);
            }
            CraneLimiter least = Cranes.at(1000, 0, 0);
            int[] others = {1000, 0, 0, 850, 250};
            for (int what = 0; what < others.length; what++) {
                Check.due("boom(" + what + ") at least", least.boom(what), others[what]);
            }
        });
        Doc.edge("Throws `IllegalArgumentException` if what is out of range", () -> {
            for (int wrong : Cranes.beyond(0, 11)) {
                Cranes.argument("what " + wrong, Cranes::busy, c -> c.boom(wrong));
            }
        });
    }

    private static void limiter() {
        Doc.section("Promise 18");
        Doc.edge("Returns a value of the limiter.", () -> Cranes.question("limiter", c -> {
            for (int what = 0; what < 8; what++) {
                c.limiter(what);
            }
        }));
        Doc.edge("- `what`: 0 measured mass Q, 1 measured radius, 2 net load, 3 table that is used, 4 wind, 5 rated"
                + " capacity for L, the measured radius and S, 6 present utilization, 7 state", () -> {
                    CraneLimiter c = Cranes.lifting();
                    c.setOutrigger(3, 1);
                    c.fillTable(1, 8000);
                    c.wind(150);
                    c.bypass(2);
                    c.run(0, 1);
                    // 12476 at the measured radius, of which the wind leaves 900 of 1000.
                    int[] due = {5200, 615, 5000, 1, 150, 11228, 445, 3};
                    for (int what = 0; what < due.length; what++) {
                        Check.due("limiter(" + what + ")", c.limiter(what), due[what]);
                    }
                    Cranes.argument("-1", Cranes::busy, x -> x.limiter(-1));
                    Cranes.argument("8", Cranes::busy, x -> x.limiter(8));
                });
        Doc.edge("Returns that value.", () -> {
            CraneLimiter c = new CraneLimiter();
            c.setTare(0);
            int[] due = {0, 600, 0, 2, 0, 0, 0, 0};
            for (int what = 0; what < due.length; what++) {
                Check.due("limiter(" + what + ") of nothing", c.limiter(what), due[what]);
            }
        });
        Doc.edge("Throws `IllegalArgumentException` if what is out of range", () -> {
            for (int wrong : Cranes.beyond(0, 7)) {
                Cranes.argument("what " + wrong, Cranes::busy, c -> c.limiter(wrong));
            }
        });
    }

    private static void rated() {
        Doc.section("Promise 19");
        Doc.edge("Returns the rated capacity for a position with its radius R0.", () -> {
            CraneLimiter c = Cranes.lifting();
            c.fillTable(2, 8000);
            // The measured radius is 615, where it is 12476; the present position does not count.
            Check.due("the radius R0", c.rated(1500, 600, 0), 12666);
            Check.due("another length", c.rated(1000, 600, 0), 24443);
            c.setOutrigger(1, 0);
            Check.due("another slew angle", c.rated(1500, 600, 1350), 95000);
            c.wind(350);
            Check.due("with wind", c.rated(1500, 600, 0), 6333);
            Check.due("the present slew angle", c.boom(2), 0);
            Cranes.question("rated", x -> x.rated(6000, 850, 3599));
        });
        Doc.edge("- `length`: 1000 to 6000", () -> ratedEdges(0, 1000, 6000));
        Doc.edge("- `angle`: 0 to 850", () -> ratedEdges(1, 0, 850));
        Doc.edge("- `slew`: 0 to 3599", () -> ratedEdges(2, 0, 3599));
        Doc.edge("Returns the rated capacity.", () -> {
            CraneLimiter c = new CraneLimiter();
            Check.due("none", c.rated(1500, 600, 0), 0);
            Cranes.level(c, 100000);
            Check.due("the most", c.rated(1500, 600, 0), 100000);
            c.wind(1000);
            Check.due("too much wind", c.rated(1500, 600, 0), 0);
        });
        Doc.edge("Throws `IllegalArgumentException` if an argument is out of range", () -> {
            for (int[] p : SetUpEdges.NO_POSITIONS) {
                Cranes.argument("a position", Cranes::busy, c -> c.rated(p[0], p[1], p[2]));
            }
        });
    }

    private static void ratedEdges(int part, int least, int greatest) {
        for (int value : new int[] {least, least + 1, greatest - 1, greatest}) {
            int[] p = {1500, 700, 7};
            p[part] = value;
            // A crane that stands there, without a load, measures the radius R0.
            CraneLimiter there = Cranes.busyTables();
            there.setTare(0);
            there.setBoom(p[0], p[1], p[2]);
            Check.due("rated at " + value, Cranes.busyTables().rated(p[0], p[1], p[2]), there.limiter(5));
        }
        for (int wrong : new int[] {least - 1, greatest + 1}) {
            int[] p = {1500, 700, 7};
            p[part] = wrong;
            Cranes.argument("rated at " + wrong, Cranes::busy, c -> c.rated(p[0], p[1], p[2]));
        }
    }

    /** A crane whose capacity at one column is the given one, and 0 in all others, for each length. */
    private static CraneLimiter peak(int column, int mass) {
        CraneLimiter c = new CraneLimiter();
        for (int row = 0; row < 4; row++) {
            c.setCapacity(2, row, column, mass);
        }
        return c;
    }

    private static void maxRadius() {
        Doc.section("Promise 20");
        Doc.edge("Returns the greatest radius from 300 to 3000 at which the rated capacity for L and S is at least a"
                + " mass.", () -> {
                    Check.due("3000", peak(5, 5000).maxRadius(5000), 3000);
                    Check.due("1 at 3000", peak(5, 1).maxRadius(1), 3000);
                    Check.due("300", peak(0, 3000).maxRadius(3000), 300);
                    Check.due("just at least", peak(0, 3000).maxRadius(2990), 301);
                    Check.due("just less", peak(0, 3000).maxRadius(2991), 300);
                    // A second peak farther out counts, also behind a gap.
                    CraneLimiter two = peak(1, 9000);
                    two.setCapacity(2, 0, 4, 7000);
                    two.setCapacity(2, 1, 4, 7000);
                    Check.due("both peaks", two.maxRadius(7000), 2200);
                    Check.due("the first peak", two.maxRadius(7001), 600 + 400 * 1999 / 9000);
                    // For L: at 1500 half of the row of 1000; and for S.
                    CraneLimiter rows = new CraneLimiter();
                    rows.setCapacity(2, 0, 5, 5000);
                    Check.due("half of it", rows.maxRadius(2500), 3000);
                    Check.due("more than half", rows.maxRadius(2501), CraneLimiter.NONE);
                    rows.setBoom(1000, 600, 0);
                    Check.due("all of it", rows.maxRadius(5000), 3000);
                    rows.setBoom(1000, 600, 451);
                    rows.setOutrigger(1, 1);
                    Check.due("another table", rows.maxRadius(1), CraneLimiter.NONE);
                    rows.setBoom(1000, 600, 450);
                    Check.due("the first table", rows.maxRadius(1), 3000);
                    rows.wind(350);
                    Check.due("with wind", rows.maxRadius(2500), 3000);
                    Check.due("with wind, more", rows.maxRadius(2501), CraneLimiter.NONE);
                    Cranes.question("maxRadius", c -> c.maxRadius(1));
                });
        Doc.edge("- `mass`: 1 to 100000", () -> {
            CraneLimiter c = Cranes.strong();
            c.setBoom(1000, 600, 0);
            Check.due("1", c.maxRadius(1), 3000);
            Check.due("100000", c.maxRadius(100000), 3000);
            Cranes.argument("0", Cranes::busy, x -> x.maxRadius(0));
            Cranes.argument("100001", Cranes::busy, x -> x.maxRadius(100001));
        });
        Doc.edge("Returns the radius; NONE if there is none.", () -> {
            Check.due("no capacity", new CraneLimiter().maxRadius(1), CraneLimiter.NONE);
            Check.due("just enough", peak(2, 4000).maxRadius(4000), 1000);
            Check.due("1 too little", peak(2, 4000).maxRadius(4001), CraneLimiter.NONE);
        });
        Doc.edge("Throws `IllegalArgumentException` if mass is out of range", () -> {
            for (int wrong : Cranes.beyond(1, 100000)) {
                Cranes.argument("mass " + wrong, Cranes::busy, c -> c.maxRadius(wrong));
                Cranes.argument("mass " + wrong, CraneLimiter::new, c -> c.maxRadius(wrong));
            }
        });
    }

    /** A crane with 5000 kg, with table 1 from 451 to 1350, table 0 from 1351 to 3149, and table 2 from there on. */
    private static CraneLimiter around() {
        CraneLimiter c = new CraneLimiter();
        Cranes.levelTable(c, 2, 25000);
        Cranes.levelTable(c, 1, 10000);
        Cranes.levelTable(c, 0, 6250);
        c.setOutrigger(1, 1);
        c.setOutrigger(2, 0);
        c.attach(5000);
        c.run(1, 4);
        return c;
    }

    private static void worst(String what, int from, int to, int due, int dueAngle) {
        Check.due(what, around().worstSlew(from, to, 0), due);
        Check.due(what + ", the first", around().worstSlew(from, to, 1), dueAngle);
    }

    private static void worstSlew() {
        Doc.section("Promise 21");
        Doc.edge("Looks for the worst slew angle on a way clockwise: the slew angles from, from + 50, from + 100, and"
                + " so on (modulo 3600) are gone through, as far as they are met before or at the slew angle to; for"
                + " each of them the utilization is that for the measured net load and the rated capacity for L, the"
                + " measured radius and this slew angle.", () -> {
                    // Utilizations of 200 with table 2, 500 with table 1, 800 with table 0.
                    worst("one slew angle", 1400, 1400, 800, 1400);
                    worst("up to the one before a step", 1301, 1350, 500, 1301);
                    worst("up to the step itself", 1301, 1351, 800, 1351);
                    worst("up to the one behind the step", 1301, 1352, 800, 1351);
                    worst("steps of 50 miss it", 1302, 1351, 500, 1302);
                    worst("and reach it", 1302, 1352, 800, 1352);
                    worst("from the front", 0, 450, 200, 0);
                    worst("from the front to the next step", 0, 499, 200, 0);
                    worst("from the front to the step", 0, 500, 500, 500);
                    worst("over the front", 3550, 501, 500, 500);
                    worst("over the front with an odd step", 3551, 451, 500, 451);
                    worst("over the front, one less", 3551, 450, 200, 3551);
                    worst("just the step at the front", 3550, 0, 200, 3550);
                    worst("nearly round", 3150, 3149, 800, 1400);
                    worst("nearly round with an odd step", 3199, 3149, 800, 1399);
                    worst("nearly round without it", 3150, 1399, 500, 500);
                    worst("nearly round with it", 3150, 1400, 800, 1400);
                    worst("the last angle", 3599, 3599, 200, 3599);
                    // The measured radius, not R0: a capacity that falls behind 600.
                    CraneLimiter c = around();
                    c.setCapacity(2, 0, 2, 0);
                    c.setCapacity(2, 1, 2, 0);
                    Check.due("the measured radius", c.worstSlew(0, 0, 0), c.limiter(6));
                    Check.holds("which is a greater one", c.worstSlew(0, 0, 0) > 200);
                });
        Doc.edge("- `from`: 0 to 3599", () -> {
            worst("0", 0, 0, 200, 0);
            worst("3599", 3599, 0, 200, 3599);
            Cranes.argument("-1", Cranes::busy, c -> c.worstSlew(-1, 0, 0));
            Cranes.argument("3600", Cranes::busy, c -> c.worstSlew(3600, 0, 0));
        });
        Doc.edge("- `to`: 0 to 3599", () -> {
            worst("0", 3100, 0, 800, 3100);
            worst("3599", 1349, 3599, 800, 1399);
            Cranes.argument("-1", Cranes::busy, c -> c.worstSlew(0, -1, 0));
            Cranes.argument("3600", Cranes::busy, c -> c.worstSlew(0, 3600, 0));
        });
        Doc.edge("- `what`: 0 for the greatest utilization, 1 for the first of these slew angles that has it", () -> {
            worst("the first of many", 1000, 3000, 800, 1400);
            worst("the very first", 1400, 1300, 800, 1400);
            CraneLimiter free = new CraneLimiter();
            Check.due("0 everywhere", free.worstSlew(7, 6, 0), 0);
            Check.due("the first of them", free.worstSlew(7, 6, 1), 7);
            Cranes.argument("-1", Cranes::busy, c -> c.worstSlew(0, 0, -1));
            Cranes.argument("2", Cranes::busy, c -> c.worstSlew(0, 0, 2));
        });
        Doc.edge("Returns that value.", () -> {
            CraneLimiter none = Cranes.lifting();
            Cranes.level(none, 0);
            Check.due("9999", none.worstSlew(0, 3599, 0), 9999);
            Check.due("its slew angle", none.worstSlew(3599, 0, 1), 3599);
            CraneLimiter asked = around();
            asked.predicted(1);
            asked.rated(6000, 0, 1400);
            Check.due("other questions before it do not count", asked.worstSlew(0, 3599, 0), 800);
            Cranes.question("worstSlew", c -> c.worstSlew(0, 3599, 1));
        });
        Doc.edge("Throws `IllegalArgumentException` if an argument is out of range", () -> {
            for (int wrong : Cranes.beyond(0, 3599)) {
                Cranes.argument("from " + wrong, Cranes::busy, c -> c.worstSlew(wrong, 0, 0));
                Cranes.argument("to " + wrong, Cranes::busy, c -> c.worstSlew(0, wrong, 0));
            }
            for (int wrong : Cranes.beyond(0, 1)) {
                Cranes.argument("what " + wrong, Cranes::busy, c -> c.worstSlew(0, 0, wrong));
            }
        });
    }

    private static void events() {
        Doc.section("Promise 22");
        Doc.edge("Returns the number of events in the log.", () -> {
            CraneLimiter c = new CraneLimiter();
            Check.due("none", c.events(), 0);
            c.run(2, 1);
            Check.due("one", c.events(), 1);
            c.undo();
            Check.due("after undo", c.events(), 0);
            Cranes.question("events", x -> x.events());
        });
        Doc.edge("Returns 0 to 30.", () -> {
            for (int count : new int[] {0, 1, 29, 30, 31, 60, 61}) {
                Check.due("events of " + count, Cranes.withEvents(count).events(), Math.min(30, count));
            }
        });
    }

    private static void event() {
        Doc.section("Promise 23");
        Doc.edge("Returns a part of an event.", () -> Cranes.question("event", c -> c.event(0, 2)));
        Doc.edge("- `index`: number of the event, from 0; the oldest one first", () -> {
            for (int count : new int[] {1, 2, 29, 30, 31, 59, 60, 61}) {
                CraneLimiter c = Cranes.withEvents(count);
                int kept = Math.min(30, count);
                for (int index = 0; index < kept; index++) {
                    Check.due("event " + index + " of " + count, c.event(index, 0), 2 * (count - kept + index) + 1);
                }
                Cranes.index("event -1 of " + count, () -> Cranes.withEvents(count), x -> x.event(-1, 0));
                Cranes.index("event " + kept + " of " + count, () -> Cranes.withEvents(count),
                        x -> x.event(kept, 0));
            }
        });
        Doc.edge("- `what`: 0 time, 1 kind, 2 value", () -> {
            CraneLimiter c = Cranes.lifting();
            Cranes.tickAt(c, 5000);
            int[] overload = {5, CraneLimiter.OVERLOAD, 1000};
            for (int what = 0; what < 3; what++) {
                Check.due("part " + what, c.event(1, what), overload[what]);
            }
            Cranes.argument("-1", Cranes::busy, x -> x.event(0, -1));
            Cranes.argument("3", Cranes::busy, x -> x.event(0, 3));
        });
        Doc.edge("Returns that part.", () -> {
            Check.due("BLOCKED", CraneLimiter.BLOCKED, 0);
            Check.due("STATE", CraneLimiter.STATE, 1);
            Check.due("OVERLOAD", CraneLimiter.OVERLOAD, 2);
            Check.due("LIFT", CraneLimiter.LIFT, 3);
            CraneLimiter c = Cranes.at(2000, 850, 0);
            c.attach(5000);
            c.run(1, 3);
            Cranes.level(c, 0);
            c.run(1 + 4, 1);
            c.run(2, 4);
            int[] kinds = {0, 1, 2, 1, 3};
            int[] values = {2, 2, 9999, 0, 7};
            for (int i = 0; i < kinds.length; i++) {
                Check.due("kind of event " + i, c.event(i, 1), kinds[i]);
                Check.due("value of event " + i, c.event(i, 2), values[i]);
            }
        });
        Doc.edge("Throws `IndexOutOfBoundsException` if there is no such event", () -> {
            Cranes.index("event 0 of none", CraneLimiter::new, c -> c.event(0, 0));
            for (int wrong : new int[] {-1, 1, 29, 30, BIG, SMALL}) {
                Cranes.index("event " + wrong + " of 1", () -> Cranes.withEvents(1), c -> c.event(wrong, 0));
            }
            for (int wrong : Cranes.beyond(0, 29)) {
                Cranes.index("event " + wrong + " of 30", () -> Cranes.withEvents(40), c -> c.event(wrong, 0));
            }
        });
        Doc.edge("Throws `IllegalArgumentException` if what is out of range", () -> {
            for (int wrong : Cranes.beyond(0, 2)) {
                Cranes.argument("what " + wrong, Cranes::busy, c -> c.event(0, wrong));
                Cranes.argument("what " + wrong, () -> Cranes.withEvents(40), c -> c.event(29, wrong));
            }
        });
        Doc.also("no such event and what out of range", () -> {
            for (int wrong : Cranes.beyond(0, 2)) {
                Cranes.index("both", CraneLimiter::new, c -> c.event(0, wrong));
                Cranes.index("both", () -> Cranes.withEvents(40), c -> c.event(-1, wrong));
                Cranes.index("both", () -> Cranes.withEvents(40), c -> c.event(30, wrong));
            }
        });
    }

    private static void stateTime() {
        Doc.section("Promise 24");
        Doc.edge("Returns the time in a state.", () -> Cranes.question("stateTime", c -> c.stateTime(3)));
        Doc.edge("- `state`: 0 to 3", () -> {
            CraneLimiter c = Cranes.busy();
            Check.due("0", c.stateTime(0), 12);
            Check.due("3", c.stateTime(3), 26);
            Cranes.argument("-1", Cranes::busy, x -> x.stateTime(-1));
            Cranes.argument("4", Cranes::busy, x -> x.stateTime(4));
        });
        Doc.edge("Returns the number of ticks that ended in this state.", () -> {
            CraneLimiter c = Cranes.lifting();
            Cranes.tickAt(c, 5555);
            Cranes.tickAt(c, 5000);
            Cranes.tickAt(c, 5000);
            c.bypass(4);
            c.run(0, 4);
            // The fourth of them ended the bypass.
            int[] due = {4, 1, 3, 3};
            for (int state = 0; state < 4; state++) {
                Check.due("stateTime(" + state + ")", c.stateTime(state), due[state]);
            }
            CraneLimiter free = new CraneLimiter();
            free.run(0, 100);
            Check.due("all of them", free.stateTime(0), 100);
        });
        Doc.edge("Throws `IllegalArgumentException` if there is no such state", () -> {
            for (int wrong : Cranes.beyond(0, 3)) {
                Cranes.argument("state " + wrong, Cranes::busy, c -> c.stateTime(wrong));
            }
        });
    }

    /** Lifts 5000 kg once, with a utilization of (class * 125). */
    private static void lift(CraneLimiter c, int liftClass) {
        Cranes.level(c, liftClass == 0 ? 100000 : 40000 / liftClass);
        c.run(1, 4);
        c.run(2, 4);
    }

    private static CraneLimiter lifted(int... classes) {
        CraneLimiter c = Cranes.strong();
        c.attach(5000);
        for (int liftClass : classes) {
            lift(c, liftClass);
        }
        return c;
    }

    private static void lifts() {
        Doc.section("Promise 25");
        Doc.edge("Returns the number of lifts of a class.", () -> Cranes.question("lifts", c -> c.lifts(7)));
        Doc.edge("- `liftClass`: 0 to 7", () -> {
            CraneLimiter c = lifted(0, 7, 7);
            Check.due("0", c.lifts(0), 1);
            Check.due("7", c.lifts(7), 2);
            Cranes.argument("-1", Cranes::busy, x -> x.lifts(-1));
            Cranes.argument("8", Cranes::busy, x -> x.lifts(8));
        });
        Doc.edge("Returns the number.", () -> {
            CraneLimiter c = lifted(1, 2, 2, 3, 4, 5, 6, 6, 6);
            int[] due = {0, 1, 2, 1, 1, 1, 3, 0};
            for (int i = 0; i < 8; i++) {
                Check.due("lifts(" + i + ")", c.lifts(i), due[i]);
            }
            c.run(1, 4);
            Check.due("a lift in progress does not count", c.lifts(6), 3);
        });
        Doc.edge("Throws `IllegalArgumentException` if there is no such class", () -> {
            for (int wrong : Cranes.beyond(0, 7)) {
                Cranes.argument("class " + wrong, Cranes::busy, c -> c.lifts(wrong));
            }
        });
    }

    private static void spectrum() {
        Doc.section("Promise 26");
        Doc.edge("Returns the load spectrum factor: floor(1000 * (sum of n(i) * (i + 1)^3 over all classes i) / (512 *"
                + " (number of all lifts))), where n(i) is the number of lifts of class i.", () -> {
                    for (int i = 0; i < 8; i++) {
                        Check.due("class " + i, lifted(i).spectrum(), 1000 * (i + 1) * (i + 1) * (i + 1) / 512);
                        Check.due("twice", lifted(i, i).spectrum(), 1000 * (i + 1) * (i + 1) * (i + 1) / 512);
                    }
                    // 1000 * 10 / 1536 is 6.5.
                    Check.due("rounded down", lifted(0, 0, 1).spectrum(), 6);
                    Check.due("the most", lifted(7, 7, 7).spectrum(), 1000);
                    Check.due("the least", lifted(0, 0).spectrum(), 1);
                    Check.due("all classes", lifted(0, 1, 2, 3, 4, 5, 6, 7).spectrum(), 1000 * 1296 / 4096);
                    Cranes.question("spectrum", c -> c.spectrum());
                });
        Doc.edge("Returns the factor; NONE if there was no lift.", () -> {
            Check.due("no lift", new CraneLimiter().spectrum(), CraneLimiter.NONE);
            CraneLimiter c = Cranes.lifting();
            c.run(2, 3);
            Check.due("a lift in progress", c.spectrum(), CraneLimiter.NONE);
            c.run(2, 1);
            Check.due("one lift", c.spectrum(), 1);
            c.undo();
            Check.due("no lift after undo", c.spectrum(), CraneLimiter.NONE);
        });
    }

    private static CraneLimiter full() {
        return Cranes.text(Cranes.busy(), "w1;".repeat(26) + " w");
    }

    private static void type() {
        Doc.section("Promise 27");
        Doc.edge("Appends a byte to the text.", () -> {
            CraneLimiter c = Cranes.withText("w1");
            Check.due("before it", c.runScript(), -12);
            c.type(';');
            Check.due("behind the others", c.runScript(), 1);
            CraneLimiter saved = new CraneLimiter();
            saved.type('w');
            Check.thrown("nothing is saved", IllegalStateException.class, () -> saved.undo());
        });
        Doc.edge("- `value`: 0 to 127", () -> {
            for (int value : new int[] {0, 1, 126, 127}) {
                CraneLimiter c = Cranes.withText("w1;");
                Check.due("type(" + value + ")", c.type(value), 4);
                Check.due("its fault", c.runScript(), -13);
            }
            Cranes.argument("-1", Cranes::busy, x -> x.type(-1));
            Cranes.argument("128", Cranes::busy, x -> x.type(128));
        });
        Doc.edge("Returns the length of the text.", () -> {
            CraneLimiter c = new CraneLimiter();
            for (int length = 1; length <= 80; length++) {
                Check.due("the length", c.type(' '), length);
            }
            c.clearText();
            Check.due("after clearText", c.type(' '), 1);
        });
        Doc.edge("Throws `IllegalArgumentException` if value is out of range", () -> {
            for (int wrong : Cranes.beyond(0, 127)) {
                Cranes.argument("value " + wrong, Cranes::busy, x -> x.type(wrong));
            }
        });
        Doc.edge("Throws `IllegalStateException` if the text has 80 bytes", () -> {
            CraneLimiter c = Cranes.withText(" ".repeat(79));
            Check.due("with 79", c.type(';'), 80);
            Cranes.state("with 80", RunEdges::full, x -> x.type(0));
            Cranes.state("with 80", RunEdges::full, x -> x.type(127));
        });
        Doc.also("value out of range and 80 bytes", () -> {
            for (int wrong : Cranes.beyond(0, 127)) {
                Cranes.argument("both", RunEdges::full, x -> x.type(wrong));
            }
        });
    }

    private static void clearText() {
        Doc.section("Promise 28");
        Doc.edge("Empties the text.", () -> {
            CraneLimiter c = Cranes.withText("x");
            c.clearText();
            Check.due("nothing is left", c.runScript(), 0);
            Cranes.text(c, "w2;");
            Check.due("a new text", c.runScript(), 2);
            CraneLimiter saved = Cranes.withText("x");
            Check.thrown("nothing is saved", IllegalStateException.class, () -> saved.undo());
        });
        Doc.edge("Returns the length that it had.", () -> {
            for (int length : new int[] {0, 1, 79, 80}) {
                CraneLimiter c = Cranes.withText(" ".repeat(length));
                Check.due("the length", c.clearText(), length);
                Check.due("then", c.clearText(), 0);
            }
        });
    }

    private static void runScript() {
        Doc.section("Promise 29");
        Doc.edge("Carries out the script in the text; the text stays.", () -> {
            CraneLimiter c = Cranes.text(Cranes.strong(), "h+3;b-1;e+2;s-4;w5;h-1;");
            Check.due("the ticks", c.runScript(), 16);
            int[] due = {1520, 595, 3540};
            for (int what = 0; what < 3; what++) {
                Check.due("boom(" + what + ")", c.boom(what), due[what]);
            }
            Check.due("the height", c.boom(5), 40);
            Check.due("once more", c.runScript(), 16);
            Check.due("boom(0)", c.boom(0), 1540);
            Check.due("the text", c.clearText(), 23);
        });
        Doc.edge("Undoable, if the script has no fault (one saved state for all orders).", () -> {
            CraneLimiter c = Cranes.withText("w1;w2;w3;");
            c.setTare(1);
            c.runScript();
            Check.due("one state for three orders", c.undo(), 1);
            Check.due("the time", c.boom(10), 0);
            Cranes.undoable("a script", () -> Cranes.text(Cranes.busy(), "h-9;s+9;e-9;"), x -> x.runScript());
            Cranes.undoable("no orders", () -> Cranes.text(Cranes.busy(), "   "), x -> x.runScript());
            CraneLimiter fault = Cranes.withText("w1;x");
            fault.setTare(1);
            fault.runScript();
            Check.due("none with a fault", fault.undo(), 0);
        });
        Doc.edge("Returns the number of ticks that passed; -10 minus the fault if the script has one (then nothing is"
                + " done).", () -> {
                    CraneLimiter least = Cranes.withText("");
                    Check.due("no ticks", least.runScript(), 0);
                    CraneLimiter most = Cranes.withText("w99;".repeat(20));
                    Check.due("the most", most.runScript(), 1980);
                    Check.due("the time", most.boom(10), 1980);
                    TickEdges.fault("x", 0);
                    TickEdges.fault("w1;h+99;x", 8);
                    TickEdges.fault("w1;".repeat(26) + "w1", 80);
                    TickEdges.fault(" ".repeat(79) + "x", 79);
                    // Blocked ticks pass too.
                    CraneLimiter blocked = Cranes.withText("h-99;");
                    Check.due("blocked ticks", blocked.runScript(), 99);
                    Check.due("the time", blocked.boom(10), 99);
                    Cranes.question("a fault", c -> c.runScript());
                });
    }

    private static void undo() {
        Doc.section("Promise 30");
        Doc.edge("Restores the latest saved state and removes it from the undo stack.", () -> {
            CraneLimiter c = new CraneLimiter();
            c.setTare(1);
            c.setTare(2);
            c.undo();
            Check.due("the latest one", c.setTare(3), 1);
            c.undo();
            c.undo();
            Check.due("the one before it", c.setTare(4), 200);
            // Past the end of the stack and back, many times.
            CraneLimiter many = new CraneLimiter();
            for (int i = 0; i < 20; i++) {
                many.bypass(2 * i);
                many.bypass(2 * i + 1);
                many.undo();
                Check.due("the state before", many.boom(11), 2 * i);
            }
        });
        Doc.edge("Returns the number of states that are left on the stack.", () -> {
            for (int saved = 1; saved <= 6; saved++) {
                CraneLimiter c = new CraneLimiter();
                for (int i = 0; i < saved; i++) {
                    c.wind(i);
                }
                for (int left = Math.min(saved, 4) - 1; left >= 0; left--) {
                    Check.due("left of " + saved, c.undo(), left);
                }
            }
        });
        Doc.edge("Throws `IllegalStateException` if the stack is empty", () -> {
            Cranes.state("a new object", CraneLimiter::new, c -> c.undo());
            Cranes.state("after four of five", () -> {
                CraneLimiter c = Cranes.strong();
                c.setTare(5);
                for (int i = 0; i < 4; i++) {
                    c.undo();
                }
                return c;
            }, c -> c.undo());
            CraneLimiter c = new CraneLimiter();
            c.setTare(5);
            Check.due("one state", c.undo(), 0);
            Check.thrown("none", IllegalStateException.class, () -> c.undo());
            Check.due("the tare", c.setTare(6), 200);
            Check.due("one state again", c.undo(), 0);
        });
    }

    private static final int[] FULL = {2, 2, 2, 2}, NO_ZONES = {};

    private static void digest() {
        Doc.section("Promise 31");
        Doc.plain("Returns a hash of the state.", "Returns the hash.");
        Doc.edge("It starts with h = 19763. For each of the following values v, in this order, h becomes 31 * h + v"
                + " (long arithmetic, overflow wraps).", () -> {
                    CraneLimiter c = new CraneLimiter();
                    digestIs("a new object", c, new int[] {0, 0, 200}, FULL, 0, NO_ZONES);
                    Cranes.question("digest", x -> x.digest());
                });
        Doc.edge("the number of states on the undo stack, the length of the text;", () -> {
            for (int saved = 1; saved <= 6; saved++) {
                CraneLimiter c = new CraneLimiter();
                for (int i = 0; i < saved; i++) {
                    c.setOnWheels(false);
                }
                digestIs("the stack", c, new int[] {Math.min(4, saved), 0, 200}, FULL, 0, NO_ZONES);
            }
            for (int length : new int[] {1, 79, 80}) {
                CraneLimiter c = Cranes.withText("x".repeat(length));
                digestIs("the text", c, new int[] {0, length, 200}, FULL, 0, NO_ZONES);
            }
        });
        Doc.edge("boom(0) to boom(11), limiter(0) to limiter(7), permitted(), the tare;", () -> {
            CraneLimiter c = telling();
            c.setTare(2000);
            int[] zone = {3599, 3599, 590, 1500};
            digestIs("a crane that tells them apart", c, new int[] {4, 0, 2000}, FULL, 0, zone);
            c.run(2, 7);
            Check.due("a lift", c.lifts(0), 1);
            digestIs("after a lift", c, new int[] {4, 0, 2000}, FULL, 0, zone);
        });
        Doc.edge("for each outrigger its extension; 1 if the crane is on wheels or 0 if not; for each table the sum of"
                + " its values; the number of zones; for each zone both slew angles, radius and height;", () -> {
                    CraneLimiter c = new CraneLimiter();
                    c.setOutrigger(0, 1);
                    c.setOutrigger(1, 0);
                    for (int table = 0; table < 4; table++) {
                        c.fillTable(table, 1000 + table);
                    }
                    c.setCapacity(3, 3, 5, 100000);
                    int[] zones = new int[24];
                    for (int i = 0; i < 24; i++) {
                        zones[i] = 100 * i + 7;
                    }
                    for (int i = 0; i < 24; i += 4) {
                        c.addZone(zones[i], zones[i + 1], zones[i + 2], zones[i + 3]);
                    }
                    digestIs("six zones", c, new int[] {4, 0, 200}, new int[] {1, 0, 2, 2}, 0, zones);
                    c.setOnWheels(true);
                    digestIs("on wheels", c, new int[] {4, 0, 200}, new int[] {1, 0, 2, 2}, 1, zones);
                    c.removeZone(5);
                    digestIs("five zones", c, new int[] {4, 0, 200}, new int[] {1, 0, 2, 2}, 1,
                            Arrays.copyOf(zones, 20));
                });
        Doc.edge("events(), and for each event its time, kind and value; stateTime() of each state, lifts() of each"
                + " class.", () -> {
                    for (int count : new int[] {1, 29, 30, 31, 45}) {
                        CraneLimiter c = Cranes.withEvents(count);
                        digestIs("events", c, new int[] {Math.min(4, 2 * count), 0, 200}, FULL, 0, NO_ZONES);
                    }
                    CraneLimiter busy = Cranes.busy();
                    digestIs("states, events and lifts", busy, new int[] {4, 5, 300}, new int[] {2, 0, 1, 2}, 0,
                            new int[] {3000, 600, 3000, 1604, 700, 900, 500, 800});
                    CraneLimiter lifts = lifted(0, 1, 1, 2, 3, 4, 5, 6, 7, 7);
                    digestIs("each class", lifts, new int[] {4, 0, 200}, FULL, 0, NO_ZONES);
                });
    }

    private static void digestIs(String what, CraneLimiter c, int[] hidden, int[] outriggers, int wheels,
            int[] zones) {
        Check.due(what, c.digest(), Cranes.digest(c, hidden, outriggers, wheels, zones));
    }
}
