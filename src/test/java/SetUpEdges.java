/** The boundaries in the promises 1 to 13: the new object and its set-up. */
final class SetUpEdges {
    private static final int BIG = Cranes.BIG, SMALL = Cranes.SMALL;

    private SetUpEdges() {
    }

    static void run() {
        newObject();
        setOutrigger();
        setOnWheels();
        setCapacity();
        fillTable();
        capacity();
        addZone();
        removeZone();
        setBoom();
        wind();
        attach();
        setTare();
        bypass();
    }

    private static void newObject() {
        Doc.section("Promise 1");
        Doc.edge("Creates a crane as described, without load, zones, wind samples and events, with all counts 0, an"
                + " empty text and an empty undo stack.", () -> {
                    CraneLimiter c = new CraneLimiter();
                    int[] boom = {1500, 600, 0, 600, 1549, 0, 0, 0, 1200, 0, 0, 0};
                    for (int what = 0; what < boom.length; what++) {
                        Check.due("boom(" + what + ")", c.boom(what), boom[what]);
                    }
                    int[] limiter = {200, 600, 0, 2, 0, 0, 0, 0};
                    for (int what = 0; what < limiter.length; what++) {
                        Check.due("limiter(" + what + ")", c.limiter(what), limiter[what]);
                    }
                    for (int i = 0; i < 8; i++) {
                        Check.due("lifts", c.lifts(i), 0);
                        Check.due("stateTime", c.stateTime(i / 2), 0);
                    }
                    Check.due("events", c.events(), 0);
                    Check.due("the text", c.clearText(), 0);
                    Cranes.index("no event", CraneLimiter::new, x -> x.event(0, 0));
                    Cranes.index("no zone", CraneLimiter::new, x -> x.removeZone(0));
                    Cranes.state("no saved state", CraneLimiter::new, x -> x.undo());
                    Check.due("another object is apart", Cranes.busy().boom(6) + new CraneLimiter().boom(6), 4);
                });
    }

    private static void setOutrigger() {
        Doc.section("Promise 2");
        Doc.edge("Sets the extension of an outrigger.", () -> {
            for (int k = 0; k < 4; k++) {
                CraneLimiter c = new CraneLimiter();
                c.setOutrigger(k, 1);
                for (int other = 0; other < 4; other++) {
                    Check.due("outrigger " + other, c.setOutrigger(other, 2), other == k ? 1 : 2);
                }
            }
        });
        Doc.edge("Undoable.", () -> {
            Cranes.undoable("a change", Cranes::busy, c -> c.setOutrigger(0, 0));
            Cranes.undoable("no change", Cranes::busy, c -> c.setOutrigger(0, 2));
        });
        Doc.edge("- `outrigger`: 0 to 3", () -> {
            CraneLimiter c = new CraneLimiter();
            Check.due("0", c.setOutrigger(0, 1), 2);
            Check.due("3", c.setOutrigger(3, 1), 2);
            Cranes.index("-1", Cranes::busy, x -> x.setOutrigger(-1, 1));
            Cranes.index("4", Cranes::busy, x -> x.setOutrigger(4, 1));
        });
        Doc.edge("- `extension`: 0 to 2", () -> {
            CraneLimiter c = new CraneLimiter();
            Check.due("0", c.setOutrigger(3, 0), 2);
            Check.due("2", c.setOutrigger(3, 2), 0);
            Cranes.argument("-1", Cranes::busy, x -> x.setOutrigger(0, -1));
            Cranes.argument("3", Cranes::busy, x -> x.setOutrigger(0, 3));
        });
        Doc.edge("Returns the previous extension.", () -> {
            CraneLimiter c = new CraneLimiter();
            int before = 2;
            for (int extension : new int[] {2, 0, 0, 1, 1, 2, 1, 0, 2}) {
                Check.due("before " + extension, c.setOutrigger(1, extension), before);
                before = extension;
            }
        });
        Doc.edge("Throws `IndexOutOfBoundsException` if there is no such outrigger", () -> {
            for (int wrong : Cranes.beyond(0, 3)) {
                Cranes.index("outrigger " + wrong, Cranes::busy, x -> x.setOutrigger(wrong, 0));
            }
        });
        Doc.edge("Throws `IllegalArgumentException` if extension is out of range", () -> {
            for (int wrong : Cranes.beyond(0, 2)) {
                Cranes.argument("extension " + wrong, Cranes::busy, x -> x.setOutrigger(3, wrong));
            }
        });
        Doc.also("no such outrigger and extension out of range", () -> {
            for (int wrong : Cranes.beyond(0, 3)) {
                Cranes.index("both", Cranes::busy, x -> x.setOutrigger(wrong, -1));
                Cranes.index("both", Cranes::busy, x -> x.setOutrigger(wrong, 3));
            }
        });
    }

    private static void setOnWheels() {
        Doc.section("Promise 3");
        Doc.edge("Puts the crane on wheels, or on its outriggers.", () -> {
            CraneLimiter c = new CraneLimiter();
            c.setOutrigger(0, 1);
            Check.due("on outriggers", c.limiter(3), 1);
            c.setOnWheels(true);
            Check.due("on wheels", c.limiter(3), 3);
            c.setOnWheels(false);
            Check.due("on outriggers again", c.limiter(3), 1);
        });
        Doc.edge("Undoable.", () -> {
            Cranes.undoable("a change", Cranes::busy, c -> c.setOnWheels(true));
            CraneLimiter same = new CraneLimiter();
            same.setOnWheels(false);
            Check.due("no change", same.undo(), 0);
        });
        Doc.plain("- `wheels`: true for wheels");
        Doc.edge("Returns true if it was on wheels before.", () -> {
            CraneLimiter c = new CraneLimiter();
            boolean before = false;
            for (boolean wheels : new boolean[] {false, true, true, false, false, true}) {
                Check.holds("before " + wheels, c.setOnWheels(wheels) == before);
                before = wheels;
            }
        });
    }

    private static final int[][] NO_PLACES = {{-1, 0, 0}, {4, 0, 0}, {0, -1, 0}, {0, 4, 0}, {0, 0, -1}, {0, 0, 6},
        {SMALL, 3, 5}, {BIG, 3, 5}, {3, SMALL, 5}, {3, BIG, 5}, {3, 3, SMALL}, {3, 3, BIG}, {3, 4, 5}, {4, 3, 5},
        {1, -1, 6}, {1, 1, -6}, {0, 1, 6}, {-1, 4, 0}};

    private static void setCapacity() {
        Doc.section("Promise 4");
        Doc.edge("Sets a value of a capacity table.", () -> {
            CraneLimiter c = new CraneLimiter();
            for (int place = 0; place < 96; place++) {
                c.setCapacity(place / 24, place / 6 % 4, place % 6, 1000 + place);
            }
            for (int place = 0; place < 96; place++) {
                Check.due("place " + place, c.capacity(place / 24, place / 6 % 4, place % 6), 1000 + place);
            }
        });
        Doc.edge("Undoable.", () -> {
            Cranes.undoable("a change", Cranes::busy, c -> c.setCapacity(3, 3, 5, 1));
            Cranes.undoable("no change", Cranes::busy, c -> c.setCapacity(0, 3, 5, 77));
        });
        Doc.edge("- `table`: 0 to 3", () -> places(new int[] {0, 3}, new int[] {1}, new int[] {2}, 0));
        Doc.edge("- `row`: 0 to 3", () -> places(new int[] {2}, new int[] {0, 3}, new int[] {2}, 1));
        Doc.edge("- `column`: 0 to 5", () -> places(new int[] {2}, new int[] {1}, new int[] {0, 5}, 2));
        Doc.edge("- `mass`: 0 to 100000", () -> {
            CraneLimiter c = new CraneLimiter();
            Check.due("100000", c.setCapacity(0, 0, 0, 100000), 0);
            Check.due("0", c.setCapacity(0, 0, 0, 0), 100000);
            Cranes.argument("-1", Cranes::busy, x -> x.setCapacity(0, 0, 0, -1));
            Cranes.argument("100001", Cranes::busy, x -> x.setCapacity(0, 0, 0, 100001));
        });
        Doc.edge("Returns the previous value.", () -> {
            CraneLimiter c = new CraneLimiter();
            int before = 0;
            for (int mass : new int[] {0, 5, 5, 100000, 1, 0}) {
                Check.due("before " + mass, c.setCapacity(1, 2, 3, mass), before);
                before = mass;
            }
        });
        Doc.edge("Throws `IndexOutOfBoundsException` if there is no such place in a table", () -> {
            for (int[] p : NO_PLACES) {
                Cranes.index("a place", Cranes::busy, x -> x.setCapacity(p[0], p[1], p[2], 5));
            }
        });
        Doc.edge("Throws `IllegalArgumentException` if mass is out of range", () -> {
            for (int wrong : Cranes.beyond(0, 100000)) {
                Cranes.argument("mass " + wrong, Cranes::busy, x -> x.setCapacity(3, 3, 5, wrong));
            }
        });
        Doc.also("no such place and mass out of range", () -> {
            for (int[] p : NO_PLACES) {
                Cranes.index("both", Cranes::busy, x -> x.setCapacity(p[0], p[1], p[2], -1));
                Cranes.index("both", Cranes::busy, x -> x.setCapacity(p[0], p[1], p[2], 100001));
            }
        });
    }

    /** The ends of the range of a part of a place, and the values beyond them. */
    private static void places(int[] tables, int[] rows, int[] columns, int part) {
        CraneLimiter c = new CraneLimiter();
        for (int table : tables) {
            for (int row : rows) {
                for (int column : columns) {
                    Check.due("set", c.setCapacity(table, row, column, 9), 0);
                    Check.due("read", c.capacity(table, row, column), 9);
                }
            }
        }
        for (int wrong : new int[] {-1, part == 2 ? 6 : 4}) {
            int[] p = {2, 1, 2};
            p[part] = wrong;
            Cranes.index("set beyond", Cranes::busy, x -> x.setCapacity(p[0], p[1], p[2], 9));
            Cranes.index("read beyond", Cranes::busy, x -> x.capacity(p[0], p[1], p[2]));
        }
    }

    private static void fillTable() {
        Doc.section("Promise 5");
        Doc.edge("Fills a capacity table: the value in row i for the radius r becomes floor(m * (10 - i) / 10), where m"
                + " is the smaller one of 100000 and floor(1000 * moment / r).", () -> {
                    int[] radii = {300, 600, 1000, 1500, 2200, 3000};
                    // 30000000 / 300 is just 100000, 1000000000 / 3000 is the most; 29999 and 30001 are beside it.
                    for (int moment : new int[] {0, 1, 2, 3, 29999, 30000, 30001, 300000, 8000, 999999, 1000000}) {
                        CraneLimiter c = Cranes.strong();
                        c.fillTable(1, moment);
                        for (int place = 0; place < 24; place++) {
                            long m = Math.min(100000, 1000L * moment / radii[place % 6]);
                            long due = m * (10 - place / 6) / 10;
                            Check.due("the place " + place, c.capacity(1, place / 6, place % 6), due);
                            Check.due("in the table 2", c.capacity(2, place / 6, place % 6),
                                    100000 * (10 - place / 6) / 10);
                        }
                    }
                    CraneLimiter c = new CraneLimiter();
                    c.fillTable(0, 29999);
                    Check.due("just below 100000", c.capacity(0, 0, 0), 99996);
                    c.fillTable(0, 30000);
                    Check.due("just 100000", c.capacity(0, 0, 0), 100000);
                    c.fillTable(0, 30001);
                    Check.due("above 100000", c.capacity(0, 0, 0), 100000);
                    c.fillTable(0, 1);
                    // 1000 / 300 is 3, and 2.7, 2.4, 2.1 of it.
                    Check.due("rounded twice", c.capacity(0, 1, 0) * 100 + c.capacity(0, 3, 0), 202);
                });
        Doc.edge("Undoable.", () -> {
            Cranes.undoable("a change", Cranes::busy, c -> c.fillTable(0, 1));
            Cranes.undoable("no change", Cranes::busy, c -> c.fillTable(3, 10500));
        });
        Doc.edge("- `table`: 0 to 3", () -> {
            CraneLimiter c = new CraneLimiter();
            Check.due("0", c.fillTable(0, 8000), 202749);
            Check.due("3", c.fillTable(3, 8000), 202749);
            Cranes.index("-1", Cranes::busy, x -> x.fillTable(-1, 8000));
            Cranes.index("4", Cranes::busy, x -> x.fillTable(4, 8000));
        });
        Doc.edge("- `moment`: 0 to 1000000", () -> {
            CraneLimiter c = new CraneLimiter();
            Check.due("1000000", c.fillTable(3, 1000000), 2040000);
            Check.due("0", c.fillTable(3, 0), 0);
            Cranes.argument("-1", Cranes::busy, x -> x.fillTable(3, -1));
            Cranes.argument("1000001", Cranes::busy, x -> x.fillTable(3, 1000001));
        });
        Doc.edge("Returns the sum of all values of the table.", () -> {
            int[][] sums = {{0, 0}, {1, 11}, {5000, 126711}, {6000, 152070}, {9000, 228106}, {300000, 2040000}};
            for (int[] f : sums) {
                CraneLimiter c = Cranes.busy();
                Check.due("the sum for " + f[0], c.fillTable(2, f[0]), f[1]);
                int sum = 0;
                for (int place = 0; place < 24; place++) {
                    sum += c.capacity(2, place / 6, place % 6);
                }
                Check.due("the values for " + f[0], sum, f[1]);
            }
        });
        Doc.edge("Throws `IndexOutOfBoundsException` if there is no such table", () -> {
            for (int wrong : Cranes.beyond(0, 3)) {
                Cranes.index("table " + wrong, Cranes::busy, x -> x.fillTable(wrong, 5));
            }
        });
        Doc.edge("Throws `IllegalArgumentException` if moment is out of range", () -> {
            for (int wrong : Cranes.beyond(0, 1000000)) {
                Cranes.argument("moment " + wrong, Cranes::busy, x -> x.fillTable(0, wrong));
            }
        });
        Doc.also("no such table and moment out of range", () -> {
            for (int wrong : Cranes.beyond(0, 3)) {
                Cranes.index("both", Cranes::busy, x -> x.fillTable(wrong, -1));
                Cranes.index("both", Cranes::busy, x -> x.fillTable(wrong, 1000001));
            }
        });
    }

    private static void capacity() {
        Doc.section("Promise 6");
        Doc.edge("Returns a value of a capacity table.", () -> Cranes.question("capacity", c -> c.capacity(3, 3, 5)));
        Doc.edge("- `table`: 0 to 3", () -> places(new int[] {0, 3}, new int[] {0}, new int[] {0}, 0));
        Doc.edge("- `row`: 0 to 3", () -> places(new int[] {0}, new int[] {0, 3}, new int[] {0}, 1));
        Doc.edge("- `column`: 0 to 5", () -> places(new int[] {0}, new int[] {0}, new int[] {0, 5}, 2));
        Doc.edge("Returns the value.", () -> {
            CraneLimiter c = Cranes.strong();
            Check.due("the first place", c.capacity(0, 0, 0), 100000);
            Check.due("the last place", c.capacity(3, 3, 5), 70000);
            c.setCapacity(3, 3, 5, 0);
            Check.due("the least value", c.capacity(3, 3, 5), 0);
        });
        Doc.edge("Throws `IndexOutOfBoundsException` if there is no such place in a table", () -> {
            for (int[] p : NO_PLACES) {
                Cranes.index("a place", Cranes::busy, x -> x.capacity(p[0], p[1], p[2]));
            }
        });
    }

    private static void addZone() {
        Doc.section("Promise 7");
        Doc.edge("Adds a zone.", () -> {
            CraneLimiter c = Cranes.withZones(5);
            Check.due("without it", c.setBoom(1500, 600, 3300), 0);
            c.addZone(3200, 3300, 590, 1500);
            Check.due("with it", c.boom(9), 10 + 49);
        });
        Doc.edge("Undoable.", () -> {
            Cranes.undoable("a change", Cranes::busy, c -> c.addZone(0, 3599, 0, 0));
            Cranes.undoable("the sixth", () -> Cranes.withZones(5), c -> c.addZone(0, 3599, 0, 0));
        });
        Doc.edge("- `from`: first slew angle, 0 to 3599", () -> zoneRange(0, 3599));
        Doc.edge("- `to`: second slew angle, 0 to 3599", () -> zoneRange(1, 3599));
        Doc.edge("- `radius`: greatest radius, 0 to 10000", () -> zoneRange(2, 10000));
        Doc.edge("- `height`: greatest height, 0 to 10000", () -> zoneRange(3, 10000));
        Doc.edge("Returns the number of zones.", () -> {
            CraneLimiter c = new CraneLimiter();
            for (int count = 1; count <= 6; count++) {
                Check.due("the number", c.addZone(0, 0, 0, 0), count);
            }
            c.undo();
            Check.due("after undo", c.addZone(0, 0, 0, 0), 6);
        });
        Doc.edge("Throws `IllegalArgumentException` if an argument is out of range", () -> {
            for (int part = 0; part < 4; part++) {
                for (int wrong : Cranes.beyond(0, part < 2 ? 3599 : 10000)) {
                    int[] z = {1, 2, 3, 4};
                    z[part] = wrong;
                    Cranes.argument("part " + part, Cranes::busy, x -> x.addZone(z[0], z[1], z[2], z[3]));
                }
            }
        });
        Doc.edge("Throws `IllegalStateException` if there are 6 zones", () -> {
            CraneLimiter c = Cranes.withZones(5);
            Check.due("with 5", c.addZone(0, 0, 0, 0), 6);
            Cranes.state("with 6", () -> Cranes.withZones(6), x -> x.addZone(0, 0, 0, 0));
            Cranes.state("with 6", () -> Cranes.withZones(6), x -> x.addZone(3599, 3599, 10000, 10000));
        });
        Doc.also("an argument out of range and 6 zones", () -> {
            for (int part = 0; part < 4; part++) {
                for (int wrong : Cranes.beyond(0, part < 2 ? 3599 : 10000)) {
                    int[] z = {1, 2, 3, 4};
                    z[part] = wrong;
                    Cranes.argument("both", () -> Cranes.withZones(6), x -> x.addZone(z[0], z[1], z[2], z[3]));
                }
            }
        });
    }

    private static void zoneRange(int part, int greatest) {
        for (int value : new int[] {0, 1, greatest - 1, greatest}) {
            int[] z = {7, 7, 300, 300};
            z[part] = value;
            CraneLimiter c = new CraneLimiter();
            Check.due("a zone with " + value, c.addZone(z[0], z[1], z[2], z[3]), 1);
            // At the first and the last slew angle of the zone, where R0 is 600 and H 1549.
            for (int end = 0; end < 2; end++) {
                int due = Math.max(0, 600 - z[2]) + Math.max(0, 1549 - z[3]);
                Check.due("violated at " + z[end], c.setBoom(1500, 600, z[end]), due);
            }
        }
        for (int wrong : new int[] {-1, greatest + 1}) {
            int[] z = {7, 7, 300, 300};
            z[part] = wrong;
            Cranes.argument("a zone with " + wrong, Cranes::busy, x -> x.addZone(z[0], z[1], z[2], z[3]));
        }
    }

    private static void removeZone() {
        Doc.section("Promise 8");
        Doc.edge("Removes a zone.", () -> {
            for (int count = 1; count <= 6; count++) {
                for (int index = 0; index < count; index++) {
                    CraneLimiter c = zonesByBits(count);
                    c.removeZone(index);
                    Check.due("the zones left", c.boom(9), (1 << count) - 1 - (1 << index));
                }
            }
        });
        Doc.edge("The numbers of the zones behind it decrease by 1.", () -> {
            for (int index = 0; index < 6; index++) {
                CraneLimiter c = zonesByBits(6);
                int left = 63 - (1 << index);
                c.removeZone(index);
                for (int number = 4; number >= 0; number--) {
                    int bit = number < index ? number : number + 1;
                    c.removeZone(number);
                    left -= 1 << bit;
                    Check.due("without the number " + number, c.boom(9), left);
                }
            }
        });
        Doc.edge("Undoable.", () -> {
            Cranes.undoable("the first", () -> Cranes.withZones(6), c -> c.removeZone(0));
            Cranes.undoable("the last", () -> Cranes.withZones(6), c -> c.removeZone(5));
            Cranes.undoable("the only one", () -> Cranes.withZones(1), c -> c.removeZone(0));
        });
        Doc.edge("- `index`: number of a zone, from 0", () -> {
            for (int count = 0; count <= 6; count++) {
                int zones = count;
                if (count > 0) {
                    Check.due("the first", Cranes.withZones(count).removeZone(0), count - 1);
                    Check.due("the last", Cranes.withZones(count).removeZone(count - 1), count - 1);
                }
                Cranes.index("before the first", () -> Cranes.withZones(zones), x -> x.removeZone(-1));
                Cranes.index("behind the last", () -> Cranes.withZones(zones), x -> x.removeZone(zones));
            }
        });
        Doc.edge("Returns the number of zones that are left.", () -> {
            CraneLimiter c = Cranes.withZones(6);
            for (int left = 5; left >= 0; left--) {
                Check.due("left", c.removeZone(left / 2), left);
            }
        });
        Doc.edge("Throws `IndexOutOfBoundsException` if there is no such zone", () -> {
            for (int wrong : new int[] {-1, 2, 5, 6, BIG, SMALL}) {
                Cranes.index("zone " + wrong, Cranes::busy, x -> x.removeZone(wrong));
            }
            Cranes.index("zone 0 of none", CraneLimiter::new, x -> x.removeZone(0));
            // A zone that is gone, though it was there.
            Cranes.index("a zone that was removed", () -> {
                CraneLimiter c = Cranes.withZones(3);
                c.removeZone(0);
                return c;
            }, x -> x.removeZone(2));
        });
    }

    /** A crane whose zone k is violated by 2 to the power of k. */
    private static CraneLimiter zonesByBits(int count) {
        CraneLimiter c = new CraneLimiter();
        for (int k = 0; k < count; k++) {
            c.addZone(0, 0, 600 - (1 << k), 10000);
        }
        return c;
    }

    private static void setBoom() {
        Doc.section("Promise 9");
        Doc.edge("Places the boom; the height of the hook becomes 0.", () -> {
            CraneLimiter c = new CraneLimiter();
            c.run(1, 100);
            Check.due("the height before", c.boom(5), 1349);
            c.setBoom(1500, 600, 0);
            Check.due("the height", c.boom(5), 0);
            c.run(1, 1);
            c.setBoom(6000, 850, 3599);
            Check.due("L", c.boom(0), 6000);
            Check.due("A", c.boom(1), 850);
            Check.due("S", c.boom(2), 3599);
            Check.due("the height", c.boom(5), 0);
            Check.due("no tick", c.boom(10), 101);
        });
        Doc.edge("Undoable.", () -> {
            Cranes.undoable("a change", () -> Cranes.withZones(4), c -> c.setBoom(1000, 0, 3599));
            Cranes.undoable("no change", () -> Cranes.withZones(4), c -> c.setBoom(1500, 600, 0));
            CraneLimiter high = new CraneLimiter();
            high.run(1, 3);
            high.setBoom(1500, 600, 0);
            high.undo();
            Check.due("the height is back", high.boom(5), 60);
        });
        Doc.edge("- `length`: 1000 to 6000", () -> position(0, 1000, 6000));
        Doc.edge("- `angle`: 0 to 850", () -> position(1, 0, 850));
        Doc.edge("- `slew`: 0 to 3599", () -> position(2, 0, 3599));
        Doc.edge("Returns the violation of the new position.", () -> {
            CraneLimiter c = new CraneLimiter();
            Check.due("without zones", c.setBoom(6000, 0, 0), 0);
            c.addZone(100, 200, 600, 1549);
            c.addZone(200, 300, 599, 1548);
            int[][] slews = {{99, 0}, {100, 0}, {199, 0}, {200, 2}, {300, 2}, {301, 0}};
            for (int[] f : slews) {
                Check.due("at " + f[0], c.setBoom(1500, 600, f[0]), f[1]);
                Check.due("boom(9) at " + f[0], c.boom(9), f[1]);
            }
            Check.due("the longest", c.setBoom(6000, 0, 200), 5850 - 600 + 5850 - 599);
        });
        Doc.edge("Throws `IllegalArgumentException` if an argument is out of range", () -> {
            for (int[] p : NO_POSITIONS) {
                Cranes.argument("a position", () -> Cranes.withZones(3), x -> x.setBoom(p[0], p[1], p[2]));
            }
        });
        Doc.edge("Throws `IllegalStateException` if the tension is not 0", () -> {
            for (int tension = 1; tension <= 4; tension++) {
                int ticks = tension;
                Cranes.state("a tension of " + tension, () -> held(ticks), x -> x.setBoom(1500, 600, 0));
            }
            Cranes.state("with the hook up", Cranes::busy, x -> x.setBoom(2000, 100, 9));
            CraneLimiter c = held(1);
            c.run(2, 1);
            Check.due("a tension of 0", c.setBoom(1000, 0, 0), 0);
            Check.due("a load on the ground", c.boom(7), 5000);
        });
        Doc.also("an argument out of range and a tension", () -> {
            for (int[] p : NO_POSITIONS) {
                Cranes.argument("both", Cranes::busy, x -> x.setBoom(p[0], p[1], p[2]));
                Cranes.argument("both", () -> held(1), x -> x.setBoom(p[0], p[1], p[2]));
            }
        });
    }

    static final int[][] NO_POSITIONS = {{999, 600, 0}, {6001, 600, 0}, {1500, -1, 0}, {1500, 851, 0},
        {1500, 600, -1}, {1500, 600, 3600}, {BIG, 0, 0}, {SMALL, 0, 0}, {1000, BIG, 0}, {1000, SMALL, 0},
        {1000, 0, BIG}, {1000, 0, SMALL}, {0, 0, 0}, {999, 851, 3600}};

    private static CraneLimiter held(int ticks) {
        CraneLimiter c = Cranes.strong();
        c.attach(5000);
        c.run(1, ticks);
        return c;
    }

    private static void position(int part, int least, int greatest) {
        for (int value : new int[] {least, least + 1, greatest - 1, greatest}) {
            int[] p = {1500, 600, 7};
            p[part] = value;
            CraneLimiter c = new CraneLimiter();
            Check.due("placed", c.setBoom(p[0], p[1], p[2]), 0);
            Check.due("the value", c.boom(part), value);
        }
        for (int wrong : new int[] {least - 1, greatest + 1}) {
            int[] p = {1500, 600, 7};
            p[part] = wrong;
            Cranes.argument("at " + wrong, () -> Cranes.withZones(2), x -> x.setBoom(p[0], p[1], p[2]));
        }
    }

    private static void wind() {
        Doc.section("Promise 10");
        Doc.edge("Takes a wind sample.", () -> {
            CraneLimiter c = new CraneLimiter();
            c.wind(9);
            Check.due("one sample", c.limiter(4), 9);
            for (int i = 0; i < 3; i++) {
                c.wind(0);
                Check.due("a sample of 0 is one too", c.limiter(4), 9);
            }
            c.wind(0);
            Check.due("the fifth drops the first", c.limiter(4), 0);
        });
        Doc.edge("Undoable.", () -> {
            Cranes.undoable("a greater one", Cranes::busy, c -> c.wind(1000));
            Cranes.undoable("a smaller one", Cranes::busy, c -> c.wind(0));
            CraneLimiter c = new CraneLimiter();
            c.wind(500);
            c.wind(0);
            c.wind(0);
            c.wind(0);
            c.wind(1);
            Check.due("without the first", c.limiter(4), 1);
            c.undo();
            Check.due("with the first again", c.limiter(4), 500);
        });
        Doc.edge("- `speed`: 0 to 1000", () -> {
            Check.due("0", new CraneLimiter().wind(0), 0);
            Check.due("1000", new CraneLimiter().wind(1000), 1000);
            Cranes.argument("-1", Cranes::busy, x -> x.wind(-1));
            Cranes.argument("1001", Cranes::busy, x -> x.wind(1001));
        });
        Doc.edge("Returns the wind afterwards.", () -> {
            CraneLimiter c = new CraneLimiter();
            int[] samples = {1, 0, 3, 2, 1, 0, 0, 0, 0};
            int[] winds = {1, 1, 3, 3, 3, 3, 2, 1, 0};
            for (int i = 0; i < samples.length; i++) {
                Check.due("after the sample " + i, c.wind(samples[i]), winds[i]);
                Check.due("limiter(4)", c.limiter(4), winds[i]);
            }
        });
        Doc.edge("Throws `IllegalArgumentException` if speed is out of range", () -> {
            for (int wrong : Cranes.beyond(0, 1000)) {
                Cranes.argument("speed " + wrong, Cranes::busy, x -> x.wind(wrong));
            }
        });
    }

    private static void attach() {
        Doc.section("Promise 11");
        Doc.edge("Attaches a load in place of the present one, or releases it.", () -> {
            CraneLimiter c = Cranes.strong();
            c.attach(5);
            c.attach(6);
            Check.due("in place of it", c.boom(7), 6);
            c.attach(0);
            Check.due("released", c.boom(7), 0);
            c.run(1, 1);
            Check.due("nothing is taken up", c.boom(6), 0);
            Check.due("the hook goes up", c.boom(5), 20);
        });
        Doc.edge("Undoable.", () -> {
            Cranes.undoable("a load", CraneLimiter::new, c -> c.attach(100000));
            Cranes.undoable("no load", CraneLimiter::new, c -> c.attach(0));
            Cranes.undoable("a release", SetUpEdges::loaded, c -> c.attach(0));
            Cranes.undoable("the same load", SetUpEdges::loaded, c -> c.attach(3000));
        });
        Doc.edge("- `mass`: 1 to 100000; 0 for no load", () -> {
            CraneLimiter c = new CraneLimiter();
            for (int mass : new int[] {1, 2, 99999, 100000, 0}) {
                c.attach(mass);
                Check.due("the load", c.boom(7), mass);
            }
            Cranes.argument("-1", SetUpEdges::loaded, x -> x.attach(-1));
            Cranes.argument("100001", SetUpEdges::loaded, x -> x.attach(100001));
        });
        Doc.edge("Returns the mass of the load before, 0 if there was none.", () -> {
            CraneLimiter c = new CraneLimiter();
            int before = 0;
            for (int mass : new int[] {0, 1, 100000, 100000, 0, 0, 7}) {
                Check.due("before " + mass, c.attach(mass), before);
                before = mass;
            }
        });
        Doc.edge("Throws `IllegalArgumentException` if mass is out of range", () -> {
            for (int wrong : Cranes.beyond(0, 100000)) {
                Cranes.argument("mass " + wrong, SetUpEdges::loaded, x -> x.attach(wrong));
            }
        });
        Doc.edge("Throws `IllegalStateException` if the tension or the height of the hook is not 0", () -> {
            for (int tension = 1; tension <= 4; tension++) {
                int ticks = tension;
                Cranes.state("a tension of " + tension, () -> held(ticks), x -> x.attach(6));
                Cranes.state("a release with " + tension, () -> held(ticks), x -> x.attach(0));
            }
            Cranes.state("a tension of 4 and a height", () -> held(5), x -> x.attach(6));
            Cranes.state("a height of 20", () -> raised(1, 0), x -> x.attach(6));
            Cranes.state("no load with a height of 20", () -> raised(1, 0), x -> x.attach(0));
            // 101 of a hook under a flat boom, and five steps down: 1 above the ground.
            Check.due("the height", raised(6, 5).boom(5), 1);
            Cranes.state("a height of 1", () -> raised(6, 5), x -> x.attach(6));
            Check.due("a height of 0", raised(6, 6).attach(6), 0);
            CraneLimiter c = held(4);
            c.run(2, 4);
            Check.due("a tension of 0", c.attach(6), 5000);
        });
        Doc.also("mass out of range and a tension or a height", () -> {
            for (int wrong : Cranes.beyond(0, 100000)) {
                Cranes.argument("both", () -> held(1), x -> x.attach(wrong));
                Cranes.argument("both", () -> raised(1, 0), x -> x.attach(wrong));
                Cranes.argument("both", Cranes::busy, x -> x.attach(wrong));
            }
        });
    }

    private static CraneLimiter loaded() {
        CraneLimiter c = Cranes.strong();
        c.attach(3000);
        return c;
    }

    /** A hook without a load under a flat boom, after some ticks up and down. */
    private static CraneLimiter raised(int up, int down) {
        CraneLimiter c = Cranes.at(1020, 29, 0);
        for (int i = 0; i < up + down; i++) {
            c.run(i < up ? 1 : 2, 1);
        }
        return c;
    }

    private static void setTare() {
        Doc.section("Promise 12");
        Doc.edge("Sets the tare.", () -> {
            CraneLimiter c = Cranes.lifting();
            c.setTare(0);
            Check.due("measured without a tare", c.limiter(0), 5000);
            c.setTare(1000);
            Check.due("measured with a tare", c.limiter(0), 6000);
            Check.due("the net load", c.limiter(2), 5000);
        });
        Doc.edge("Undoable.", () -> {
            Cranes.undoable("a change", Cranes::busy, c -> c.setTare(0));
            Cranes.undoable("no change", Cranes::busy, c -> c.setTare(300));
        });
        Doc.edge("- `mass`: 0 to 2000", () -> {
            CraneLimiter c = new CraneLimiter();
            c.setTare(2000);
            Check.due("2000", c.limiter(0), 2000);
            c.setTare(0);
            Check.due("0", c.limiter(0), 0);
            Cranes.argument("-1", Cranes::busy, x -> x.setTare(-1));
            Cranes.argument("2001", Cranes::busy, x -> x.setTare(2001));
        });
        Doc.edge("Returns the previous tare.", () -> {
            CraneLimiter c = new CraneLimiter();
            int before = 200;
            for (int mass : new int[] {200, 0, 0, 2000, 2000, 1}) {
                Check.due("before " + mass, c.setTare(mass), before);
                before = mass;
            }
        });
        Doc.edge("Throws `IllegalArgumentException` if mass is out of range", () -> {
            for (int wrong : Cranes.beyond(0, 2000)) {
                Cranes.argument("mass " + wrong, Cranes::busy, x -> x.setTare(wrong));
            }
        });
    }

    private static void bypass() {
        Doc.section("Promise 13");
        Doc.edge("Sets the bypass time.", () -> {
            CraneLimiter c = new CraneLimiter();
            for (int ticks : new int[] {1, 1000, 0, 999}) {
                c.bypass(ticks);
                Check.due("the bypass time", c.boom(11), ticks);
            }
        });
        Doc.edge("The state changes only with the next tick.", () -> {
            CraneLimiter c = new CraneLimiter();
            c.bypass(1000);
            Check.due("before the tick", c.limiter(7), CraneLimiter.NORMAL);
            Check.due("no event", c.events(), 0);
            c.run(0, 1);
            Check.due("with the tick", c.limiter(7), CraneLimiter.BYPASSED);
            c.bypass(0);
            Check.due("before the next tick", c.limiter(7), CraneLimiter.BYPASSED);
            c.run(0, 1);
            Check.due("with the next tick", c.limiter(7), CraneLimiter.NORMAL);
            Check.due("two events", c.events(), 2);
        });
        Doc.edge("Undoable.", () -> {
            Cranes.undoable("a change", Cranes::busy, c -> c.bypass(0));
            Cranes.undoable("no change", Cranes::busy, c -> c.bypass(24));
        });
        Doc.edge("- `ticks`: 0 to 1000", () -> {
            CraneLimiter c = new CraneLimiter();
            c.bypass(1000);
            c.run(0, 1);
            Check.due("1000", c.boom(11), 999);
            c.bypass(0);
            c.run(0, 1);
            Check.due("0", c.boom(11), 0);
            Cranes.argument("-1", Cranes::busy, x -> x.bypass(-1));
            Cranes.argument("1001", Cranes::busy, x -> x.bypass(1001));
        });
        Doc.edge("Returns the previous bypass time.", () -> {
            CraneLimiter c = new CraneLimiter();
            Check.due("at first", c.bypass(3), 0);
            c.run(0, 2);
            Check.due("after two ticks of three", c.bypass(1), 1);
            c.run(0, 5);
            Check.due("after more ticks than that", c.bypass(1000), 0);
            Check.due("without a tick", c.bypass(0), 1000);
        });
        Doc.edge("Throws `IllegalArgumentException` if ticks is out of range", () -> {
            for (int wrong : Cranes.beyond(0, 1000)) {
                Cranes.argument("ticks " + wrong, Cranes::busy, x -> x.bypass(wrong));
            }
        });
    }
}
