/** The boundaries in the document's sections on geometry, rope and load, measurement, capacity, and zones. */
final class MeasureEdges {
    private static final int[] COSINES = {10000, 9848, 9397, 8660, 7660, 6428, 5000, 3420, 1736, 0};
    private static final int[] LENGTHS = {1000, 2000, 3500, 6000};
    private static final int[] RADII = {300, 600, 1000, 1500, 2200, 3000};

    private MeasureEdges() {
    }

    static void run() {
        whatItIs();
        geometry();
        ropeAndLoad();
        measurement();
        capacity();
        outriggersAndWind();
        utilization();
        zones();
    }

    private static void whatItIs() {
        Doc.section("What it is");
        Doc.plain("A load moment limiter for a mobile crane, with a simulation of the crane: boom geometry, load"
                + " measurement from the cylinder pressure with a correction for the deflection of the boom, capacity"
                + " tables with interpolation, outriggers, wind, warning and cut-out with hysteresis, working zones, a"
                + " bypass, an event log, lift statistics, and scripts of motions.");
        Doc.edge("An object is used for at most 512 calls after it has been made; what later calls answer is free.",
                () -> {
                    CraneLimiter ticks = Cranes.withText("w99;".repeat(20));
                    // clearText and 80 bytes were 81 calls.
                    for (int call = 82; call < 512; call++) {
                        Check.due("call " + call, ticks.runScript(), 1980);
                    }
                    Check.due("call 512", ticks.boom(10), 430 * 1980);
                    CraneLimiter saves = new CraneLimiter();
                    for (int call = 1; call < 512; call++) {
                        Check.due("call " + call, saves.setTare(call), call == 1 ? 200 : call - 1);
                    }
                    Check.due("call 512", saves.undo(), 3);
                    CraneLimiter undone = new CraneLimiter();
                    for (int call = 1; call < 512; call += 2) {
                        undone.wind(1);
                        Check.due("call " + (call + 1), undone.undo(), 0);
                    }
                });
    }

    private static CraneLimiter placed(int length, int angle) {
        CraneLimiter c = new CraneLimiter();
        c.setBoom(length, angle, 0);
        return c;
    }

    private static int radius(int length, int angle) {
        return placed(length, angle).boom(3);
    }

    private static int tip(int length, int angle) {
        return placed(length, angle).boom(4);
    }

    private static void geometry() {
        Doc.section("GEOMETRY");
        Doc.plain("Lengths are in centimetres, angles in tenths of a degree, masses in kilograms.");
        Doc.edge("The boom has a length L (1000 to 6000), an angle A above the horizontal (0 to 850) and a slew angle"
                + " S (0 to 3599, clockwise, 0 is the front); at first these are 1500, 600 and 0.",
                MeasureEdges::ranges);
        Doc.edge("The cosine C(a) for a from 0 to 900 is an integer: it is 10000, 9848, 9397, 8660, 7660, 6428, 5000,"
                + " 3420, 1736 and 0 for a = 0, 100, 200, .., 900;", MeasureEdges::cosinesAtTens);
        Doc.edge("for a between 100 * k and 100 * (k + 1) it is C(100 * k) - floor((C(100 * k) - C(100 * (k + 1))) *"
                + " (a - 100 * k) / 100).", MeasureEdges::cosinesBetween);
        Doc.edge("The radius R0 is the greater one of 100 and floor(L * C(A) / 10000) - 150.", () -> {
            // C(755) is 2494: the second one of the two is 99, 100, 100, 101.
            Check.due("R0 just below 100", radius(1002, 755), 100);
            Check.due("R0 of 100 by both", radius(1003, 755), 100);
            Check.due("R0 of 100 by both", radius(1006, 755), 100);
            Check.due("R0 just above 100", radius(1007, 755), 101);
            Check.due("R0 far below 100", radius(1000, 850), 100);
            Check.due("the greatest R0", radius(6000, 0), 5850);
        });
        Doc.edge("The tip height H is floor(L * C(900 - A) / 10000) + 250.", () -> {
            Check.due("the least H", tip(1000, 0), 250);
            // C(898) is 35, so 3.99 and 4.0005 above 250.
            Check.due("H rounded down", tip(1142, 2), 253);
            Check.due("H just not rounded", tip(1143, 2), 254);
            Check.due("the greatest H", tip(6000, 850), 6204);
        });
        Doc.edge("The boom moment MB is floor(4 * L / 5) * floor((R0 + 150) / 2).", () -> {
            // 4 * L / 5 is 801.6 and (R0 + 150) / 2 is 501: 401301 or 401601.
            Check.due("4 * L / 5 rounded down", bareMoment(1002, 0), 401301 / 500);
            // R0 + 150 is 999, and a half of it 499 or 499.5: 399200 or 399600.
            Check.due("(R0 + 150) / 2 rounded down", bareMoment(1000, 1), 399200 / 500);
            Check.due("nothing to round", bareMoment(1500, 600), 450000 / 500);
            Check.due("the greatest moment", bareMoment(6000, 0), 4800 * 3000 / 500);
            Check.due("the least moment", bareMoment(1000, 850), 800 * 125 / 500);
        });
    }

    /** The pressure of a boom with nothing on its rope, which is floor(MB / 500). */
    private static int bareMoment(int length, int angle) {
        CraneLimiter c = placed(length, angle);
        c.setTare(0);
        return c.boom(8);
    }

    private static void ranges() {
        CraneLimiter first = new CraneLimiter();
        Check.due("L at first", first.boom(0), 1500);
        Check.due("A at first", first.boom(1), 600);
        Check.due("S at first", first.boom(2), 0);
        int[][] edges = {{1000, 0, 0}, {6000, 850, 3599}, {1001, 1, 1}, {5999, 849, 3598}};
        for (int[] p : edges) {
            CraneLimiter c = Cranes.at(p[0], p[1], p[2]);
            Check.due("L", c.boom(0), p[0]);
            Check.due("A", c.boom(1), p[1]);
            Check.due("S", c.boom(2), p[2]);
        }
        int[][] beyond = {{999, 0, 0}, {6001, 0, 0}, {1000, -1, 0}, {1000, 851, 0}, {1000, 0, -1}, {1000, 0, 3600}};
        for (int[] p : beyond) {
            Cranes.argument("setBoom to " + p[0] + ", " + p[1] + ", " + p[2], CraneLimiter::new,
                    c -> c.setBoom(p[0], p[1], p[2]));
        }
    }

    private static void cosinesAtTens() {
        for (int length = 1000; length <= 6000; length++) {
            int wrong = 0;
            for (int k = 0; k <= 8; k++) {
                CraneLimiter c = placed(length, 100 * k);
                int radius = Math.max(100, length * COSINES[k] / 10000 - 150);
                int tip = length * COSINES[9 - k] / 10000 + 250;
                wrong += c.boom(3) == radius && c.boom(4) == tip ? 0 : 1;
            }
            Check.due("the wrong ones of the length " + length, wrong, 0);
        }
        Check.due("C(0)", radius(6000, 0), 6000 - 150);
        Check.due("C(900)", tip(6000, 0), 250);
        Check.due("C(100)", tip(6000, 800), 6000 * 9848 / 10000 + 250);
    }

    private static void cosinesBetween() {
        // Just beside the tens: C(1), C(99), C(101), C(799), C(801), C(849), C(899), C(851).
        int[][] radii = {{1, 9999}, {99, 9850}, {101, 9844}, {799, 1753}, {801, 1719}, {849, 886}, {850, 868}};
        for (int[] f : radii) {
            Check.due("R0 at " + f[0], radius(6000, f[0]), 6000 * f[1] / 10000 - 150);
            Check.due("R0 at " + f[0], radius(5993, f[0]), 5993 * f[1] / 10000 - 150);
        }
        int[][] tips = {{1, 18}, {49, 851}, {50, 868}, {99, 1719}, {101, 1753}, {799, 9844}, {801, 9850}};
        for (int[] f : tips) {
            Check.due("H at " + f[0], tip(6000, f[0]), 6000 * f[1] / 10000 + 250);
            Check.due("H at " + f[0], tip(5993, f[0]), 5993 * f[1] / 10000 + 250);
        }
        int before = 0;
        for (int angle = 0; angle <= 850; angle++) {
            int tip = tip(6000, angle);
            Check.holds("H grows with A at " + angle, tip >= before);
            before = tip;
        }
    }

    private static void ropeAndLoad() {
        Doc.section("ROPE AND LOAD");
        Doc.edge("The hook has a height of 0 or more (0 at first), which is at most H - 200.", () -> {
            CraneLimiter c = Cranes.strong();
            Check.due("at first", c.boom(5), 0);
            c.run(1, 67);
            Check.due("below the limit", c.boom(5), 1340);
            Check.due("to the limit", c.run(1, 1), 1);
            Check.due("at the limit", c.boom(5), 1549 - 200);
            Check.due("beyond it", c.run(1, 1), 0);
            Check.due("still at the limit", c.boom(5), 1549 - 200);
            c.run(2, 67);
            Check.due("above the ground", c.boom(5), 9);
            Check.due("to the ground", c.run(2, 1), 1);
            Check.due("on the ground", c.boom(5), 0);
            Check.due("beyond it", c.run(2, 1), 0);
            Check.due("still on the ground", c.boom(5), 0);
        });
        Doc.edge("The tare is the mass of the hook (0 to 2000, 200 at first).", () -> {
            CraneLimiter c = new CraneLimiter();
            Check.due("at first", c.setTare(2000), 200);
            Check.due("the most", c.setTare(0), 2000);
            Check.due("the least", c.setTare(1), 0);
            Cranes.argument("-1", Cranes::busy, x -> x.setTare(-1));
            Cranes.argument("2001", Cranes::busy, x -> x.setTare(2001));
        });
        Doc.edge("A load may be attached, with a mass from 1 to 100000.", () -> {
            CraneLimiter c = new CraneLimiter();
            Check.due("the least", c.attach(1), 0);
            Check.due("the most", c.attach(100000), 1);
            Check.due("the load", c.boom(7), 100000);
            Cranes.argument("-1", CraneLimiter::new, x -> x.attach(-1));
            Cranes.argument("100001", CraneLimiter::new, x -> x.attach(100001));
        });
        Doc.edge("The tension is a number from 0 to 4 (0 at first): so many quarters of the load hang on the rope.",
                () -> {
                    CraneLimiter c = Cranes.strong();
                    c.attach(4000);
                    for (int tension = 0; tension <= 4; tension++) {
                        Check.due("the tension", c.boom(6), tension);
                        // 750 cm without the deflection D, which is 0 up to 333 kg: 1200, 2200, .. are 3 to 12 cm.
                        int x = 200 + 1000 * tension;
                        Check.due("the pressure", c.boom(8), (x * (750 + x * 3 / 1000) + 450000) / 500);
                        c.run(1, 1);
                    }
                    Check.due("not above 4", c.boom(6), 4);
                    Check.due("the hook instead", c.boom(5), 20);
                    c.run(2, 5);
                    Check.due("down to 0", c.boom(6), 0);
                    Check.due("no lower", c.run(2, 1), 0);
                    Check.due("still 0", c.boom(6), 0);
                });
        Doc.edge("X = floor(mass * tension / 4) + tare; without a load X = tare.", () -> {
            CraneLimiter c = Cranes.strong();
            Check.due("without a load", c.boom(8), 1200);
            c.attach(3);
            // Quarters of 3 kg are 0.75, 1.5, 2.25 and 3 kg; 200, 201, 202 and 203 kg stand for these pressures.
            int[] pressures = {1200, 1200, 1201, 1203, 1204};
            for (int tension = 0; tension <= 4; tension++) {
                Check.due("the pressure at " + tension, c.boom(8), pressures[tension]);
                c.run(1, 1);
            }
            CraneLimiter tare = Cranes.holding(1500, 600, 0, 1);
            tare.setTare(0);
            Check.due("a load alone", tare.boom(8), (750 + 450000) / 500);
        });
    }

    private static void measurement() {
        Doc.section("MEASUREMENT");
        Doc.edge("The deflection by a mass m is D(m) = floor(m * L * L / 750000000).", () -> {
            CraneLimiter c = new CraneLimiter();
            c.setTare(1000);
            // 1000 * 1500 * 1500 is 3 * 750000000.
            Check.due("a deflection of 3", c.boom(8), (1000 * (600 + 3 + 150) + 450000) / 500);
            c.setTare(999);
            Check.due("a deflection of 2", c.boom(8), (999 * (600 + 2 + 150) + 450000) / 500);
            c.setTare(0);
            Check.due("no deflection", c.limiter(1), 600);
            // 38017 * 1097 * 1097 is 61 * 750000000 less 47.
            CraneLimiter below = Cranes.holding(1097, 600, 0, 38017 - 200);
            Check.due("a deflection just below 61", below.boom(8), (38017 * (398 + 60 + 150) + 877 * 274) / 500);
            CraneLimiter most = Cranes.at(6000, 0, 0);
            most.setTare(2000);
            most.attach(100000);
            most.bypass(9);
            most.run(1, 4);
            // 102000 * 36000000 / 750000000 is 4896, and MB is 4800 * 3000.
            Check.due("the greatest", most.boom(8), (102000L * (5850 + 4896 + 150) + 14400000) / 500);
        });
        Doc.edge("The pressure is P = floor((X * (R0 + D(X) + 150) + MB) / 500).", () -> {
            int[][] pressures = {{0, 900}, {1, 901}, {2, 903}, {3, 904}, {4, 906}, {200, 1200}, {333, 1399}};
            for (int[] f : pressures) {
                CraneLimiter c = new CraneLimiter();
                c.setTare(f[0]);
                // 750 kg cm each: 1.5 units of the pressure, rounded down.
                Check.due("the pressure of " + f[0], c.boom(8), f[1]);
            }
        });
        Doc.edge("The measured mass is found from P alone: first Q = floor((500 * P - MB) / (R0 + 150)), but 0 if this"
                + " is negative; then, three times, R = R0 + D(Q), and Q = floor((500 * P - MB) / (R + 150)), but 0 if"
                + " this is negative.", MeasureEdges::measuredMass);
        Doc.edge("R, as it was computed the last time, is the measured radius.", () -> {
            measuredAt(6000, 850, 100000, 21099, 25157);
            measuredAt(3000, 700, 50000, 48937, 1520);
            measuredAt(4000, 600, 20000, 20175, 2283);
            CraneLimiter free = new CraneLimiter();
            Check.due("without a deflection", free.limiter(1), 600);
            free.setTare(333);
            Check.due("332 are measured", free.limiter(1), 600);
            // 500 * 1402 - 450000 is 251000, and 251000 / 750 is 334: a deflection of 1.
            free.setTare(335);
            Check.due("334 are measured first", free.limiter(1), 601);
        });
        Doc.edge("The net load is Q - tare, but 0 if this is negative.", () -> {
            // The tare, the load, Q and the net load.
            int[][] nets = {{1, 0, 0, 0}, {2, 0, 2, 0}, {5, 0, 4, 0}, {1, 1, 2, 1}, {0, 1, 0, 0}, {0, 2, 2, 2},
                {2, 1, 2, 0}, {200, 5000, 5200, 5000}};
            for (int[] f : nets) {
                CraneLimiter c = Cranes.holding(1500, 600, 0, f[1] == 0 ? 1 : f[1]);
                c.setTare(f[0]);
                if (f[1] == 0) {
                    c.run(2, 4);
                }
                Check.due("Q of " + f[0] + " + " + f[1], c.limiter(0), f[2]);
                Check.due("net load of " + f[0] + " + " + f[1], c.limiter(2), f[3]);
            }
        });
    }

    private static void measuredMass() {
        // 500 * P - MB: MB is 447600, so P is 895 and the difference -100; with 450000 and 900 it is 0.
        CraneLimiter negative = placed(1500, 601);
        negative.setTare(0);
        Check.due("P", negative.boom(8), 895);
        Check.due("Q is 0 if negative", negative.limiter(0), 0);
        Check.due("and so is its deflection", negative.limiter(1), 597);
        CraneLimiter zero = placed(1500, 600);
        zero.setTare(0);
        Check.due("Q of nothing", zero.limiter(0), 0);
        Check.due("its radius", zero.limiter(1), 600);
        int[][] small = {{1, 0}, {2, 2}, {3, 2}, {4, 4}, {5, 4}, {999, 998}, {1000, 1000}};
        for (int[] f : small) {
            CraneLimiter c = new CraneLimiter();
            c.setTare(f[0]);
            Check.due("Q of " + f[0], c.limiter(0), f[1]);
        }
        // Where two, three and four rounds end at other values.
        measuredAt(6000, 850, 100000, 21099, 25157);
        measuredAt(6000, 850, 20000, 14838, 1877);
        measuredAt(3000, 700, 50000, 48937, 1520);
        measuredAt(6000, 800, 3000, 3199, 1044);
    }

    private static void measuredAt(int length, int angle, int mass, int due, int dueRadius) {
        CraneLimiter c = Cranes.at(length, angle, 0);
        c.attach(mass);
        c.bypass(9);
        c.run(1, 4);
        Check.due("the tension", c.boom(6), 4);
        Check.due("Q of " + mass + " at " + length, c.limiter(0), due);
        Check.due("R of " + mass + " at " + length, c.limiter(1), dueRadius);
    }

    /** A crane whose table 2 has one value in each place of a row, and 0 elsewhere. */
    private static CraneLimiter withRow(int row, int mass) {
        CraneLimiter c = new CraneLimiter();
        for (int column = 0; column < 6; column++) {
            c.setCapacity(2, row, column, mass);
        }
        return c;
    }

    private static CraneLimiter withColumn(int column, int mass) {
        CraneLimiter c = new CraneLimiter();
        for (int row = 0; row < 4; row++) {
            c.setCapacity(2, row, column, mass);
        }
        return c;
    }

    private static void capacity() {
        Doc.section("CAPACITY");
        Doc.edge("There are four capacity tables with 4 rows and 6 columns; all values are 0 at first.", () -> {
            CraneLimiter c = new CraneLimiter();
            for (int place = 0; place < 96; place++) {
                Check.due("the value " + place, c.capacity(place / 24, place / 6 % 4, place % 6), 0);
            }
            int[][] beyond = {{-1, 0, 0}, {4, 0, 0}, {0, -1, 0}, {0, 4, 0}, {0, 0, -1}, {0, 0, 6}};
            for (int[] p : beyond) {
                Cranes.index("no such place", Cranes::busy, x -> x.capacity(p[0], p[1], p[2]));
            }
        });
        Doc.edge("The rows are for boom lengths of 1000, 2000, 3500 and 6000, the columns for radii of 300, 600, 1000,"
                + " 1500, 2200 and 3000.", () -> {
                    for (int row = 0; row < 4; row++) {
                        CraneLimiter c = withRow(row, 100000);
                        for (int length : new int[] {1000, 1001, 1999, 2000, 2001, 3499, 3500, 3501, 5999, 6000}) {
                            boolean full = c.rated(length, 850, 0) == 100000;
                            Check.holds("row " + row + " is for " + length, full == (length == LENGTHS[row]));
                        }
                    }
                    for (int column = 0; column < 6; column++) {
                        CraneLimiter c = withColumn(column, 100000);
                        Check.due("column " + column, c.maxRadius(100000), RADII[column]);
                    }
                });
        Doc.edge("The capacity for a length and a radius is 0 if the radius is greater than 3000; a radius less than"
                + " 300 counts as 300.", () -> {
                    CraneLimiter far = withColumn(5, 800);
                    Check.due("at 3000", far.rated(3150, 0, 0), 800);
                    Check.due("at 3001", far.rated(3151, 0, 0), 0);
                    Check.due("at 5850", far.rated(6000, 0, 0), 0);
                    // C(632) is 4495: radii of 299, 300 and 301.
                    CraneLimiter near = withColumn(0, 30000);
                    Check.due("at 299", near.rated(1000, 632, 0), 30000);
                    Check.due("at 300", near.rated(1002, 632, 0), 30000);
                    Check.due("at 301", near.rated(1004, 632, 0), 29900);
                    Check.due("at 100", near.rated(1000, 850, 0), 30000);
                });
        Doc.edge("Otherwise let l0, l1 be neighbouring lengths of rows with l0 <= length <= l1, r0, r1 neighbouring"
                + " radii of columns with r0 <= radius <= r1, and c00, c01, c10, c11 the values at (l0, r0), (l0, r1),"
                + " (l1, r0), (l1, r1); the capacity is floor(((c00 * (r1 - radius) + c01 * (radius - r0)) * (l1 -"
                + " length) + (c10 * (r1 - radius) + c11 * (radius - r0)) * (length - l0)) / ((r1 - r0) * (l1 -"
                + " l0))).", MeasureEdges::interpolation);
        Doc.edge("(If there are two choices of neighbours, they give the same capacity.)", MeasureEdges::twoChoices);
    }

    private static void interpolation() {
        CraneLimiter c = new CraneLimiter();
        // At 1500 and 814: 734.965 for 1000 and 637.29 for 2000, so 686.1; rounded twice it would be 685.
        c.setCapacity(2, 0, 1, 1003);
        c.setCapacity(2, 0, 2, 502);
        c.setCapacity(2, 1, 1, 908);
        c.setCapacity(2, 1, 2, 402);
        Check.due("rounded once", c.rated(1500, 500, 0), 686);
        Check.due("the radius of it", radius(1500, 500), 814);
        CraneLimiter most = new CraneLimiter();
        most.setCapacity(2, 2, 4, 100000);
        most.setCapacity(2, 2, 5, 100000);
        most.setCapacity(2, 3, 4, 100000);
        most.setCapacity(2, 3, 5, 100000);
        // At 4500 and 2853 the greatest values are weighed with 800 times 2500.
        Check.due("the greatest values", most.rated(4500, 480, 0), 100000);
        Check.holds("a radius behind 2200", radius(4500, 480) > 2200);
        CraneLimiter least = new CraneLimiter();
        least.setCapacity(2, 0, 1, 1);
        Check.due("a little less than 1", least.rated(1001, 413, 0), 0);
        Check.due("just 1", least.rated(1000, 413, 0), 1);
    }

    private static void twoChoices() {
        CraneLimiter c = new CraneLimiter();
        for (int place = 0; place < 24; place++) {
            c.setCapacity(2, place / 6, place % 6, 1000 + 7919 * place % 9001);
        }
        // At these the radius is just 600, 1500, 1000 and 1500, the length just that of a row.
        int[][] exact = {{2000, 679, 1, 1}, {2000, 341, 1, 3}, {3500, 708, 2, 2}, {3500, 618, 2, 3},
            {3500, 254, 2, 5}, {1000, 413, 0, 1}, {6000, 828, 3, 1}};
        for (int[] f : exact) {
            Check.due("R0", radius(f[0], f[1]), RADII[f[3]]);
            Check.due("the value itself", c.rated(f[0], f[1], 0), c.capacity(2, f[2], f[3]));
        }
        for (int length : new int[] {1000, 2000, 3500, 6000}) {
            c.setBoom(length, 0, 0);
            for (int column = 0; column < 6; column++) {
                int row = length == 1000 ? 0 : length == 2000 ? 1 : length == 3500 ? 2 : 3;
                int value = c.capacity(2, row, column);
                Check.holds("reached at " + RADII[column], c.maxRadius(value) >= RADII[column]);
            }
        }
        // A length between two rows at a radius that is just a column's, and the other way round.
        c.setBoom(1500, 600, 0);
        int halfway = (c.capacity(2, 0, 1) + c.capacity(2, 1, 1)) / 2;
        Check.due("between two rows", c.rated(1500, 600, 0), halfway);
    }

    private static void outriggersAndWind() {
        Doc.edge("Outrigger k, from 0 to 3, is at the slew angle 450 + 900 * k and has an extension of 0, 1 or 2 (2 at"
                + " first).", () -> {
                    for (int k = 0; k < 4; k++) {
                        CraneLimiter c = new CraneLimiter();
                        int outrigger = k;
                        Check.due("the extension at first", c.setOutrigger(k, 0), 2);
                        // Only outrigger k is near to its own slew angle.
                        Check.due("its own angle", tableAt(c, 450 + 900 * k), 0);
                        Check.due("the angle of the next one", tableAt(c, (1350 + 900 * k) % 3600), 2);
                        Check.due("0", c.setOutrigger(k, 1), 0);
                        Check.due("1", tableAt(c, 450 + 900 * k), 1);
                        Cranes.argument("3", Cranes::busy, x -> x.setOutrigger(outrigger, 3));
                        Cranes.argument("-1", Cranes::busy, x -> x.setOutrigger(outrigger, -1));
                    }
                    Cranes.index("outrigger -1", Cranes::busy, x -> x.setOutrigger(-1, 1));
                    Cranes.index("outrigger 4", Cranes::busy, x -> x.setOutrigger(4, 1));
                });
        Doc.edge("On wheels (not at first), table 3 is used.", () -> {
            CraneLimiter c = new CraneLimiter();
            Check.due("at first", c.limiter(3), 2);
            Check.holds("at first", !c.setOnWheels(true));
            for (int slew = 0; slew < 3600; slew += 225) {
                Check.due("on wheels", tableAt(c, slew), 3);
            }
            c.setOutrigger(0, 0);
            Check.due("whatever the outriggers are", tableAt(c, 450), 3);
        });
        Doc.edge("Otherwise the table that is used at a slew angle s is the least extension of the outriggers whose"
                + " angular distance from s is less than 900.", () -> {
                    for (int k = 0; k < 4; k++) {
                        CraneLimiter c = new CraneLimiter();
                        c.setOutrigger(k, 0);
                        c.setOutrigger((k + 1) % 4, 1);
                        int own = 450 + 900 * k;
                        int[][] tables = {{own + 2699, 2}, {own + 2700, 2}, {own + 2701, 0}, {own, 0}, {own + 1, 0},
                            {own + 899, 0}, {own + 900, 1}, {own + 901, 1}, {own + 1799, 1}, {own + 1800, 2}};
                        for (int[] f : tables) {
                            Check.due("outrigger " + k + " at " + f[0], tableAt(c, f[0] % 3600), f[1]);
                        }
                    }
                });
        Doc.edge("(The angular distance of two slew angles is the smaller one of the two arcs between them.)", () -> {
            CraneLimiter first = new CraneLimiter();
            first.setOutrigger(0, 1);
            int[][] tables = {{3150, 2}, {3151, 1}, {3599, 1}, {0, 1}, {1349, 1}, {1350, 2}};
            for (int[] f : tables) {
                Check.due("from 450 to " + f[0], tableAt(first, f[0]), f[1]);
            }
            CraneLimiter last = new CraneLimiter();
            last.setOutrigger(3, 1);
            int[][] others = {{2250, 2}, {2251, 1}, {3599, 1}, {0, 1}, {449, 1}, {450, 2}};
            for (int[] f : others) {
                Check.due("from 3150 to " + f[0], tableAt(last, f[0]), f[1]);
            }
        });
        Doc.edge("The wind is the greatest one of the latest four wind samples (0 if there are none), in tenths of a"
                + " metre per second.", () -> {
                    CraneLimiter c = new CraneLimiter();
                    Check.due("no samples", c.limiter(4), 0);
                    int[] samples = {50, 300, 200, 100, 90, 80, 70, 60, 500, 0};
                    int[] winds = {50, 300, 300, 300, 300, 200, 100, 90, 500, 500};
                    for (int i = 0; i < samples.length; i++) {
                        Check.due("after the sample " + i, c.wind(samples[i]), winds[i]);
                    }
                });
        Doc.edge("The wind factor is 1000 if the wind is at most 100, otherwise 1000 - 2 * (wind - 100), but at least"
                + " 0.", () -> {
                    int[][] factors = {{0, 1000}, {99, 1000}, {100, 1000}, {101, 998}, {102, 996}, {599, 2}, {600, 0},
                        {601, 0}, {1000, 0}};
                    for (int[] f : factors) {
                        CraneLimiter c = Cranes.strong();
                        c.wind(f[0]);
                        Check.due("with a wind of " + f[0], c.rated(1000, 0, 0), 100 * f[1]);
                    }
                });
        Doc.edge("The rated capacity for a length, a radius and a slew angle is floor(capacity * (wind factor) /"
                + " 1000).", () -> {
                    int[][] rated = {{0, 0}, {1, 0}, {2, 1}, {499, 249}, {500, 250}, {99999, 49999}, {100000, 50000}};
                    for (int[] f : rated) {
                        CraneLimiter c = new CraneLimiter();
                        Cranes.level(c, f[0]);
                        Check.due("without wind", c.rated(1500, 600, 0), f[0]);
                        c.wind(350);
                        Check.due("half of " + f[0], c.rated(1500, 600, 0), f[1]);
                    }
                });
    }

    private static int tableAt(CraneLimiter c, int slew) {
        c.setBoom(1500, 600, slew);
        return c.limiter(3);
    }

    private static void utilization() {
        Doc.edge("The utilization for a net load and a rated capacity is 0 if the net load is 0; otherwise 9999 if the"
                + " rated capacity is 0, else the smaller one of 9999 and floor(1000 * (net load) / (rated capacity)).",
                () -> {
                    Check.due("no net load and no capacity", new CraneLimiter().limiter(6), 0);
                    CraneLimiter one = Cranes.strong();
                    one.setTare(1);
                    one.attach(1);
                    one.run(1, 4);
                    Check.due("a net load", one.limiter(2), 1);
                    int[][] ones = {{0, 9999}, {1, 1000}, {2, 500}, {1000, 1}, {1001, 0}, {100000, 0}};
                    for (int[] f : ones) {
                        Cranes.level(one, f[0]);
                        Check.due("1 of " + f[0], one.limiter(6), f[1]);
                    }
                    CraneLimiter many = Cranes.holding(1500, 600, 0, 50000);
                    // The three rounds end at 50144 kg: 49944000 / 4994 is 10000.8, / 4995 9998.8.
                    Check.due("the net load", many.limiter(2), 49944);
                    int[][] manys = {{0, 9999}, {1, 9999}, {4993, 9999}, {4994, 9999}, {4995, 9998}, {49943, 1000},
                        {49944, 1000}, {49945, 999}};
                    for (int[] f : manys) {
                        Cranes.level(many, f[0]);
                        Check.due("49944 of " + f[0], many.limiter(6), f[1]);
                    }
                    CraneLimiter most = Cranes.holding(1500, 600, 0, 100000);
                    Check.due("the net load", most.limiter(2), 99148);
                    // 99148000 / 9915 is 9999.8.
                    Cranes.level(most, 9915);
                    Check.due("just 9999", most.limiter(6), 9999);
                    Cranes.level(most, 9914);
                    Check.due("more than 9999", most.limiter(6), 9999);
                    Cranes.level(most, 9916);
                    Check.due("less than 9999", most.limiter(6), 9998);
                });
        Doc.edge("The present utilization is that for the measured net load and the rated capacity for L, the measured"
                + " radius and S.", () -> {
                    CraneLimiter c = new CraneLimiter();
                    c.fillTable(2, 8000);
                    c.attach(5000);
                    c.run(1, 4);
                    // 12666 at the radius of 600, and 12476 at the measured one of 615.
                    Check.due("5000 of 12476", c.limiter(6), 400);
                    c.fillTable(2, 0);
                    // A capacity that ends just before the measured radius of 615: 0 in the columns of 600 and 1000.
                    c.setCapacity(2, 0, 0, 100000);
                    c.setCapacity(2, 1, 0, 100000);
                    Check.due("no capacity at 615", c.limiter(6), 9999);
                    c.setCapacity(2, 0, 2, 1000);
                    c.setCapacity(2, 1, 2, 1000);
                    // 1000 * 15 / 400 is 37.5; at the radius R0 it would be 0.
                    Check.due("a capacity of 37", c.limiter(5), 37);
                });
    }

    private static void zones() {
        Doc.section("ZONES");
        Doc.edge("There are at most 6 zones.", () -> {
            CraneLimiter c = Cranes.withZones(5);
            Check.due("the sixth", c.addZone(0, 0, 0, 0), 6);
            Cranes.state("the seventh", () -> Cranes.withZones(6), x -> x.addZone(0, 0, 0, 0));
            c.removeZone(2);
            Check.due("the sixth again", c.addZone(0, 0, 0, 0), 6);
        });
        Doc.plain("A zone consists of two slew angles, a greatest radius and a greatest height.");
        Doc.edge("A slew angle is in the zone if it is met on the way clockwise from the first to the second slew"
                + " angle, both included.", () -> {
                    // From, to, and slew angles that are in the zone or not.
                    zone(100, 200, new int[] {100, 101, 150, 199, 200}, new int[] {99, 201, 0, 3599, 1900});
                    zone(3500, 50, new int[] {3500, 3501, 3599, 0, 49, 50}, new int[] {3499, 51, 1800, 2000});
                    zone(700, 700, new int[] {700}, new int[] {699, 701, 0, 2500});
                    zone(701, 700, new int[] {700, 701, 0, 3599, 2500}, new int[] {});
                    zone(0, 3599, new int[] {0, 1, 1800, 3598, 3599}, new int[] {});
                    zone(3599, 0, new int[] {3599, 0}, new int[] {3598, 1, 1800});
                    zone(0, 0, new int[] {0}, new int[] {1, 3599});
                });
        Doc.edge("A position (L, A, S) violates the zone, if S is in it, by the amount by which R0 is greater than the"
                + " greatest radius (0 if it is not) plus the amount by which H is greater than the greatest height (0"
                + " if it is not).", () -> {
                    // R0 is 600 and H 1549.
                    int[][] zones = {{600, 1549, 0}, {601, 1550, 0}, {599, 1549, 1}, {600, 1548, 1}, {599, 1548, 2},
                        {599, 1550, 1}, {601, 1548, 1}, {0, 0, 2149}, {10000, 10000, 0}, {0, 10000, 600},
                        {10000, 0, 1549}, {500, 1649, 100}, {700, 1449, 100}};
                    for (int[] z : zones) {
                        CraneLimiter c = new CraneLimiter();
                        c.addZone(0, 0, z[0], z[1]);
                        Check.due("the radius " + z[0] + " and the height " + z[1], c.boom(9), z[2]);
                        c.setBoom(1500, 600, 1);
                        Check.due("outside of the zone", c.boom(9), 0);
                    }
                });
        Doc.edge("The violation of a position is the sum for all zones.", () -> {
            CraneLimiter c = new CraneLimiter();
            Check.due("no zones", c.boom(9), 0);
            int due = 0;
            for (int i = 0; i < 6; i++) {
                // The zones 1, 3 and 5 are not met.
                c.addZone(i % 2, 1800, 600 - (1 << i), 1549);
                due += i % 2 == 0 ? 1 << i : 0;
                Check.due("zones up to " + i, c.boom(9), due);
            }
            Check.due("the sum of six", c.setBoom(1500, 600, 1), 63);
        });
    }

    private static void zone(int from, int to, int[] inside, int[] outside) {
        CraneLimiter c = new CraneLimiter();
        c.addZone(from, to, 599, 10000);
        for (int slew : inside) {
            Check.due(slew + " in " + from + " to " + to, c.setBoom(1500, 600, slew), 1);
        }
        for (int slew : outside) {
            Check.due(slew + " not in " + from + " to " + to, c.setBoom(1500, 600, slew), 0);
        }
    }
}
