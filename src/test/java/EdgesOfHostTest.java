/** Promises 24 to 28 at their edges: sheet, cell, copy, lights, taken. */
public final class EdgesOfHostTest {
    private static final Check CHECK = new Check("EdgesOfHostTest");
    private static final Edge EDGE = new Edge(CHECK);
    private static final int BAD = -2, NOTHING = -11, OUTSIDE = -12, UNLIKE = -13, BELOW = -14;
    private static final int BYTES = 0, SHORTS = 1, INTS = 2;
    private static final int LEAST = Integer.MIN_VALUE, MOST = Integer.MAX_VALUE;
    private static final int[] FAR = {-1, 41, LEAST, MOST};

    public static void main(String[] args) {
        sheetBounds();
        sheetSizes();
        sheetMissing();
        sheetInOrder();
        sheetAllZero();
        cellBounds();
        cellInOrder();
        cellLowestBits();
        copyBounds();
        copyPlaces();
        copyPlacesThatWrap();
        copyInOrder();
        copyNothing();
        copyAsTheyWere();
        copyWhole();
        lightsBounds();
        lightsInOrder();
        lightsNoneAsked();
        lightsPlaces();
        lightsWhatStoodAhead();
        lightsLeftOut();
        lightsFull();
        lightsAsTheyCome();
        lightsFromOneOn();
        takenBounds();
        takenInOrder();
        takenByKinds();
        CHECK.end();
    }

    private static LightYearsAreOwed withSheets(int sort, int n) {
        LightYearsAreOwed x = new LightYearsAreOwed();
        for (int i = 0; i < 4; i++) {
            x.sheet(i, sort, n);
        }
        return x;
    }

    /** Item i of a sheet as a light's years; 0, if it can't be any. Sheet 3 is used for it. */
    private static int years(LightYearsAreOwed x, int sheet, int sort, int i) {
        x.image();
        x.sheet(3, sort, 3);
        x.copy(sheet, i, 3, 2, 1);
        int years = x.lights(3, sort, 0, 1) == 1 ? x.told(x.count(0) - 1, 2) : 0;
        x.back();
        return years;
    }

    private static void sheetBounds() {
        EDGE.bounds("24: sheet", v -> new LightYearsAreOwed().sheet(v, 0, 1), 0, 1, 3, 1, BAD);
        EDGE.bounds("24: sort", v -> new LightYearsAreOwed().sheet(0, v, 1), -1, 1, 2, 1, BAD);
        for (int sort = 0; sort < 3; sort++) {
            int of = sort;
            EDGE.refused("24: n above", v -> withSheets(0, 1).sheet(0, of, v), BAD, 41, 42, MOST);
            EDGE.refused("24: n below 0", v -> withSheets(0, 1).sheet(0, of, v), BELOW,
                    -1, -2, LEAST);
            EDGE.taken("24: n", v -> withSheets(0, 1).sheet(0, of, v), 1, 0, 1, 40);
        }
    }

    private static void sheetSizes() {
        int[] sizes = {0, 1, 2, 39, 40};
        for (int sheet = 0; sheet < 4; sheet++) {
            for (int size : sizes) {
                LightYearsAreOwed x = new LightYearsAreOwed();
                CHECK.due("24: of " + size, x.sheet(sheet, size % 3, size), 1);
                CHECK.due("24: its last place", x.cell(sheet, size - 1, 1), size > 0 ? 1 : OUTSIDE);
                CHECK.due("24: behind it", x.cell(sheet, size, 1), OUTSIDE);
                CHECK.due("24: the others are missing", x.cell((sheet + 1) % 4, 0, 1), NOTHING);
            }
        }
    }

    /** "sort -1: n does not matter". */
    private static void sheetMissing() {
        for (int n : FAR) {
            LightYearsAreOwed x = withSheets(INTS, 3);
            CHECK.due("24: missing, n " + n, x.sheet(2, -1, n), 1);
            CHECK.due("24: it is", x.cell(2, 0, 0), NOTHING);
            CHECK.due("24: again", x.sheet(2, -1, n), 1);
            CHECK.due("24: another isn't", x.cell(1, 0, 0), 1);
            CHECK.due("24: there again", x.sheet(2, 0, 1), 1);
            CHECK.due("24: of its new size", x.cell(2, 1, 0), OUTSIDE);
        }
    }

    /** "BAD: no such SHEET, sort; n above 40; -14". */
    private static void sheetInOrder() {
        LightYearsAreOwed x = new LightYearsAreOwed();
        for (int n : FAR) {
            EDGE.refused("24: sheet ahead of n " + n, v -> x.sheet(v, 0, n), BAD, -1, 4);
            EDGE.refused("24: sort ahead of n " + n, v -> x.sheet(0, v, n), BAD, -2, 3);
        }
        CHECK.due("24: sheet, even to be missing", x.sheet(4, -1, 0), BAD);
        CHECK.due("24: still missing", x.cell(0, 0, 0), NOTHING);
    }

    /** Six lights that nobody looked at tell whether six items are 0. */
    private static void sheetAllZero() {
        for (int sort = 0; sort < 3; sort++) {
            LightYearsAreOwed x = withSheets(sort, 40);
            for (int i = 0; i < 40; i++) {
                x.cell(0, i, i + 1);
            }
            for (int i = 0; i < 6; i++) {
                x.light(0, 0, 1);
            }
            x.sheet(1, sort, 6);
            CHECK.due("24: items that aren't 0", x.copy(0, 34, 1, 0, 6) + x.tells(1, 0, 0), 6);
            CHECK.due("24: anew", x.sheet(0, sort, 40), 1);
            int[] places = {0, 6, 12, 18, 24, 30, 34};
            for (int place : places) {
                x.copy(0, place, 1, 0, 6);
                CHECK.due("24: all 0 from " + place, x.tells(1, 0, 0), -1);
            }
            x.cell(0, 5, 9);
            x.sheet(0, sort, 2);
            x.sheet(0, sort, 6);
            CHECK.due("24: less, then more: all 0", x.tells(0, 0, 0), -1);
        }
    }

    private static void cellBounds() {
        for (int sort = 0; sort < 3; sort++) {
            int of = sort;
            EDGE.bounds("25: sheet", v -> withSheets(of, 2).cell(v, 0, 5), 0, 1, 3, 1, BAD);
            EDGE.bounds("25: i of 1", v -> withSheets(of, 1).cell(0, v, 5), 0, 1, 0, 1, OUTSIDE);
            EDGE.bounds("25: i of 40", v -> withSheets(of, 40).cell(0, v, 5), 0, 1, 39, 1, OUTSIDE);
            EDGE.refused("25: i of none", v -> withSheets(of, 0).cell(0, v, 5), OUTSIDE,
                    -1, 0, 1, LEAST, MOST);
            EDGE.taken("25: any v", v -> withSheets(of, 1).cell(0, 0, v), 1,
                    LEAST, -1, 0, MOST);
        }
    }

    /** "BAD: no such SHEET; -11; -12". */
    private static void cellInOrder() {
        LightYearsAreOwed x = new LightYearsAreOwed();
        for (int i : FAR) {
            EDGE.refused("25: BAD ahead of -11, -12", v -> x.cell(v, i, 0), BAD, -1, 4);
            CHECK.due("25: -11 ahead of -12", x.cell(0, i, 0), NOTHING);
        }
        x.sheet(0, BYTES, 0);
        CHECK.due("25: there, without a place", x.cell(0, 0, 0), OUTSIDE);
    }

    /** "of bytes, shorts its lowest 8, 16 bits", as the host's bytes and shorts have them. */
    private static void cellLowestBits() {
        int[][] want = {{1, 1, 1, 1}, {127, 127, 127, 127}, {128, 0, 128, 128}, {255, 0, 255, 255},
            {256, 0, 256, 256}, {257, 1, 257, 257}, {383, 127, 383, 383}, {384, 0, 384, 384},
            {999, 0, 999, 999}, {-1, 0, 0, 0}, {-255, 1, 0, 0}, {-129, 127, 0, 0},
            {32768, 0, 0, 0}, {65536, 0, 0, 0}, {65537, 1, 1, 0}, {66535, 0, 999, 0},
            {-65535, 1, 1, 0}, {MOST, 0, 0, 0}, {LEAST, 0, 0, 0}, {LEAST + 7, 7, 7, 0}};
        for (int sort = 0; sort < 3; sort++) {
            LightYearsAreOwed x = withSheets(sort, 40);
            for (int[] w : want) {
                x.cell(0, 39, w[0]);
                CHECK.due("25: " + w[0] + " of sort " + sort, years(x, 0, sort, 39), w[1 + sort]);
            }
        }
    }

    private static void copyBounds() {
        EDGE.bounds("26: sheet", v -> withSheets(0, 5).copy(v, 0, 1, 0, 5), 0, 5, 3, 5, BAD);
        EDGE.bounds("26: other", v -> withSheets(0, 5).copy(1, 0, v, 0, 5), 0, 5, 3, 5, BAD);
        EDGE.bounds("26: i", v -> withSheets(1, 5).copy(0, v, 1, 0, 2), 0, 2, 3, 2, OUTSIDE);
        EDGE.bounds("26: j", v -> withSheets(1, 5).copy(0, 0, 1, v, 2), 0, 2, 3, 2, OUTSIDE);
        EDGE.bounds("26: n", v -> withSheets(2, 5).copy(0, 2, 1, 0, v), 0, 0, 3, 3, OUTSIDE);
        EDGE.bounds("26: n, to", v -> withSheets(2, 5).copy(0, 0, 1, 2, v), 0, 0, 3, 3, OUTSIDE);
        EDGE.bounds("26: n of all", v -> withSheets(2, 40).copy(0, 0, 1, 0, v), 0, 0, 40, 40,
                OUTSIDE);
    }

    /** Every place, also beside the ends, of a sheet of 5 and one of 3. */
    private static void copyPlaces() {
        for (int i = -2; i <= 7; i++) {
            LightYearsAreOwed x = withSheets(INTS, 5);
            x.sheet(1, INTS, 3);
            for (int j = -2; j <= 5; j++) {
                for (int n = -2; n <= 7; n++) {
                    boolean fits = i >= 0 && j >= 0 && n >= 0 && i + n <= 5 && j + n <= 3;
                    CHECK.due("26: copy(0, " + i + ", 1, " + j + ", " + n + ")",
                            x.copy(0, i, 1, j, n), fits ? n : OUTSIDE);
                }
            }
        }
    }

    /** Ends that an int can't hold: none of them is a place. */
    private static void copyPlacesThatWrap() {
        int[] far = {LEAST, LEAST + 1, -1, 0, 1, MOST - 1, MOST};
        for (int i : far) {
            LightYearsAreOwed x = withSheets(BYTES, 1);
            for (int j : far) {
                for (int n : far) {
                    boolean fits = i >= 0 && j >= 0 && n >= 0 && (long) i + n <= 1
                            && (long) j + n <= 1;
                    CHECK.due("26: copy(0, " + i + ", 1, " + j + ", " + n + ")",
                            x.copy(0, i, 1, j, n), fits ? n : OUTSIDE);
                }
            }
        }
    }

    /** "BAD: no such SHEET; -11; -13: they are of unlike sorts; -12". */
    private static void copyInOrder() {
        LightYearsAreOwed x = new LightYearsAreOwed();
        EDGE.refused("26: BAD ahead of -11, -12", v -> x.copy(v, -1, 0, -1, -1), BAD, -1, 4);
        EDGE.refused("26: BAD of the other, too", v -> x.copy(0, -1, v, -1, -1), BAD, -1, 4);
        CHECK.due("26: both are missing", x.copy(0, 0, 1, 0, 0), NOTHING);
        CHECK.due("26: missing to itself", x.copy(0, 0, 0, 0, 0), NOTHING);
        for (int sort = 0; sort < 3; sort++) {
            x.sheet(2, sort, 3);
            CHECK.due("26: from a missing one", x.copy(0, -1, 2, -1, -1), NOTHING);
            CHECK.due("26: to a missing one", x.copy(2, -1, 0, -1, -1), NOTHING);
            for (int other = 0; other < 3; other++) {
                x.sheet(3, other, 3);
                CHECK.due("26: " + sort + " to " + other, x.copy(2, 1, 3, 0, 2),
                        sort == other ? 2 : UNLIKE);
                CHECK.due("26: none, " + sort + " to " + other, x.copy(2, 0, 3, 0, 0),
                        sort == other ? 0 : UNLIKE);
                for (int n : FAR) {
                    CHECK.due("26: -13 ahead of -12, " + sort + " to " + other,
                            x.copy(2, n, 3, n, n), sort == other ? OUTSIDE : UNLIKE);
                }
            }
        }
    }

    /** n 0: a place at the end is one still, as the host has it. */
    private static void copyNothing() {
        LightYearsAreOwed x = withSheets(SHORTS, 5);
        x.sheet(1, SHORTS, 0);
        CHECK.due("26: at both ends", x.copy(0, 5, 1, 0, 0), 0);
        CHECK.due("26: behind the one's", x.copy(0, 6, 1, 0, 0), OUTSIDE);
        CHECK.due("26: behind the other's", x.copy(0, 5, 1, 1, 0), OUTSIDE);
        CHECK.due("26: from none", x.copy(1, 0, 0, 5, 0), 0);
        CHECK.due("26: one from none", x.copy(1, 0, 0, 0, 1), OUTSIDE);
        CHECK.due("26: one to none", x.copy(0, 0, 1, 0, 1), OUTSIDE);
        CHECK.due("26: none to itself", x.copy(1, 0, 1, 0, 0), 0);
    }

    /** Within one sheet: each item comes as it was ahead of the copy. */
    private static void copyAsTheyWere() {
        int[][] moves = {{0, 1, 5}, {1, 0, 5}, {0, 3, 3}, {3, 0, 3}, {2, 2, 4}, {0, 0, 6}, {5, 0, 1},
            {0, 5, 1}, {0, 2, 4}, {2, 0, 4}};
        for (int[] m : moves) {
            LightYearsAreOwed x = new LightYearsAreOwed();
            int[] items = {11, 12, 13, 14, 15, 16};
            Told.row(x, 0, INTS, items);
            CHECK.due("26: within one", x.copy(0, m[0], 0, m[1], m[2]), m[2]);
            int[] want = items.clone();
            for (int k = 0; k < m[2]; k++) {
                want[m[1] + k] = items[m[0] + k];
            }
            for (int i = 0; i < 6; i++) {
                CHECK.due("26: item " + i + " by " + m[0] + " to " + m[1] + ", " + m[2],
                        years(x, 0, INTS, i), want[i]);
            }
        }
    }

    private static void copyWhole() {
        for (int sort = 0; sort < 3; sort++) {
            LightYearsAreOwed x = withSheets(sort, 40);
            for (int i = 0; i < 40; i++) {
                x.cell(0, i, 100 - i);
            }
            CHECK.due("26: all forty", x.copy(0, 0, 1, 0, 40), 40);
            CHECK.due("26: the first", years(x, 1, sort, 0), 100);
            CHECK.due("26: the last", years(x, 1, sort, 39), 61);
            CHECK.due("26: they stay where they were", years(x, 0, sort, 39), 61);
            CHECK.due("26: the last to the first place", x.copy(0, 39, 1, 0, 1), 1);
            CHECK.due("26: it came", years(x, 1, sort, 0), 61);
            CHECK.due("26: no other came", years(x, 1, sort, 1), 99);
            x.copy(0, 0, 1, 1, 40);
            CHECK.due("26: refused, none came", years(x, 1, sort, 1), 99);
        }
    }

    /** Sheets of six lights each, kinds 0 to 5, numbers 9 to 4, years 50 and more. */
    private static LightYearsAreOwed withLights(int sort) {
        LightYearsAreOwed x = withSheets(sort, 18);
        for (int sheet = 0; sheet < 4; sheet++) {
            for (int i = 0; i < 6; i++) {
                x.cell(sheet, 3 * i, i);
                x.cell(sheet, 3 * i + 1, 9 - i);
                x.cell(sheet, 3 * i + 2, 50 + i);
            }
        }
        return x;
    }

    private static void lightsBounds() {
        for (int sort = 0; sort < 3; sort++) {
            int of = sort;
            EDGE.bounds("27: sheet", v -> withLights(of).lights(v, of, 0, 6), 0, 6, 3, 6, BAD);
            EDGE.bounds("27: n", v -> withLights(of).lights(0, of, 0, v), 0, 0, 6, 6, BAD);
            EDGE.bounds("27: from, one", v -> withLights(of).lights(0, of, 3 * v, 1), 0, 1, 5, 1,
                    OUTSIDE);
            for (int other = 0; other < 3; other++) {
                CHECK.due("27: " + of + " taken for " + other,
                        withLights(of).lights(0, other, 0, 6), of == other ? 6 : UNLIKE);
            }
            EDGE.refused("27: sort", v -> withLights(of).lights(0, v, 0, 6), BAD, -1, 3, LEAST, MOST);
        }
    }

    /** "BAD: no such SHEET, sort, n; -13; -11; -12". */
    private static void lightsInOrder() {
        LightYearsAreOwed x = withLights(SHORTS);
        x.sheet(3, -1, 0);
        for (int from : FAR) {
            EDGE.refused("27: sheet ahead", v -> x.lights(v, 0, from, 1), BAD, -1, 4);
            EDGE.refused("27: sort ahead", v -> x.lights(0, v, from, 1), BAD, -1, 3);
            EDGE.refused("27: sort ahead of missing", v -> x.lights(3, v, from, 1), BAD, -1, 3);
            EDGE.refused("27: n ahead of -13", v -> x.lights(0, 0, from, v), BAD, -1, 7);
            EDGE.refused("27: n ahead of -11", v -> x.lights(3, 0, from, v), BAD, -1, 7);
            EDGE.refused("27: n ahead of -12", v -> x.lights(0, 1, from, v), BAD, -1, 7);
            EDGE.refused("27: -13 ahead of -12", v -> x.lights(0, v, from, 6), UNLIKE, 0, 2);
            EDGE.refused("27: missing, of any sort", v -> x.lights(3, v, from, 6), NOTHING, 0, 1, 2);
            CHECK.due("27: outside", x.lights(0, 1, from, 6), OUTSIDE);
        }
        CHECK.due("27: none came", x.count(0), 0);
    }

    /** n 0 looks at no place, but at the sheet and its sort. */
    private static void lightsNoneAsked() {
        LightYearsAreOwed x = withLights(INTS);
        x.sheet(1, INTS, 0);
        x.sheet(3, -1, 0);
        for (int from : FAR) {
            CHECK.due("27: none, from " + from, x.lights(0, INTS, from, 0), 0);
            CHECK.due("27: none of an empty one", x.lights(1, INTS, from, 0), 0);
            CHECK.due("27: none of another sort", x.lights(0, BYTES, from, 0), UNLIKE);
            CHECK.due("27: none of a missing one", x.lights(3, BYTES, from, 0), NOTHING);
        }
        CHECK.due("27: one of an empty one", x.lights(1, INTS, 0, 1), OUTSIDE);
        CHECK.due("27: none came", x.count(0), 0);
    }

    private static void lightsPlaces() {
        for (int size = 0; size <= 7; size++) {
            for (int from = -4; from <= 8; from++) {
                LightYearsAreOwed x = new LightYearsAreOwed();
                Told.row(x, 0, INTS, new int[size]);
                boolean fits = from >= 0 && from + 3 <= size;
                CHECK.due("27: of " + size + " items, from " + from, x.lights(0, INTS, from, 1),
                        fits ? 0 : OUTSIDE);
            }
        }
        int[] far = {LEAST, LEAST + 1, LEAST + 2, LEAST + 3, -3, -2, -1, 16, 17, 18, MOST - 16,
            MOST - 2, MOST - 1, MOST};
        for (int from : far) {
            for (int n = 1; n <= 6; n++) {
                CHECK.due("27: outside, from " + from, withLights(BYTES).lights(0, BYTES, from, n),
                        OUTSIDE);
            }
        }
        CHECK.due("27: the last three", withLights(BYTES).lights(0, BYTES, 15, 1), 1);
    }

    /** "-12: what stood ahead came": whole lights, none of the one that isn't whole. */
    private static void lightsWhatStoodAhead() {
        for (int size = 0; size < 18; size++) {
            LightYearsAreOwed x = withLights(BYTES);
            x.sheet(0, BYTES, size);
            x.copy(1, 0, 0, 0, size);
            CHECK.due("27: six of " + size + " items", x.lights(0, BYTES, 0, 6), OUTSIDE);
            CHECK.due("27: what stood ahead came", x.count(0), size / 3);
            for (int i = 0; i < size / 3; i++) {
                CHECK.due("27: its kind", x.told(i, 6), i);
                CHECK.due("27: its number", x.told(i, 1), 9 - i);
                CHECK.due("27: its years", x.told(i, 2), 50 + i);
            }
        }
    }

    /** "as of light()", "others are left out": each number just inside its bounds and beside them. */
    private static void lightsLeftOut() {
        int[][] come = {{0, 0, 1}, {5, 0, 1}, {0, 9, 1}, {0, 0, 999}, {5, 9, 999}};
        int[][] not = {{-1, 0, 1}, {6, 0, 1}, {0, -1, 1}, {0, 10, 1}, {0, 0, 0}, {0, 0, 1000},
            {0, 0, -1}, {LEAST, 0, 1}, {MOST, 0, 1}, {0, LEAST, 1}, {0, MOST, 1}, {0, 0, LEAST},
            {0, 0, MOST}};
        for (int[] c : come) {
            for (int[] n : not) {
                LightYearsAreOwed x = new LightYearsAreOwed();
                Told.row(x, 0, INTS, n[0], n[1], n[2], c[0], c[1], c[2], n[0], n[1], n[2]);
                CHECK.due("27: one of three comes", x.lights(0, INTS, 0, 3), 1);
                CHECK.due("27: one is there", x.count(0), 1);
                CHECK.due("27: its kind", x.told(0, 6), c[0]);
                CHECK.due("27: its number", x.told(0, 1), c[1]);
                CHECK.due("27: its years", x.told(0, 2), c[2]);
            }
        }
    }

    /** No room left: the others are left out, too, and what is outside is outside all the same. */
    private static void lightsFull() {
        for (int there = 0; there <= 6; there++) {
            LightYearsAreOwed x = withLights(SHORTS);
            for (int i = 0; i < there; i++) {
                x.light(0, 0, 7);
            }
            CHECK.due("27: so many come, " + there, x.lights(0, SHORTS, 0, 6), 6 - there);
            CHECK.due("27: six are there", x.count(0), 6);
            CHECK.due("27: the last has its years", x.told(5, 2), there == 6 ? 7 : 55 - there);
            CHECK.due("27: none comes", x.lights(0, SHORTS, 0, 6), 0);
            CHECK.due("27: outside", x.lights(0, SHORTS, 3, 6), OUTSIDE);
        }
    }

    private static void lightsAsTheyCome() {
        LightYearsAreOwed x = withLights(BYTES);
        x.image();
        for (int round = 0; round < 2; round++) {
            CHECK.due("27: six", x.lights(0, BYTES, 0, 6), 6);
            for (int one = 0; one < 5; one++) {
                for (int i = 0; i < 6; i++) {
                    CHECK.due("27: none looked as it comes", x.look(one, i, 4095), 0);
                }
            }
            x.back();
        }
    }

    /** "from one on, three by three": from any item, in their order, behind those that are there. */
    private static void lightsFromOneOn() {
        LightYearsAreOwed x = withLights(BYTES);
        CHECK.due("27: the last three", x.lights(0, BYTES, 9, 3), 3);
        CHECK.due("27: the first three", x.lights(0, BYTES, 0, 3), 3);
        int[] kinds = {3, 4, 5, 0, 1, 2};
        for (int i = 0; i < 6; i++) {
            CHECK.due("27: as light " + i, x.told(i, 6), kinds[i]);
        }
        LightYearsAreOwed y = new LightYearsAreOwed();
        Told.row(y, 0, INTS, 5, 1, 0, 0, 0, 3, 4);
        CHECK.due("27: from item 1 on, one of two comes", y.lights(0, INTS, 1, 2), 1);
        CHECK.due("27: its number", y.told(0, 1), 3);
        CHECK.due("27: its years", y.told(0, 2), 4);
    }

    private static void takenBounds() {
        LightYearsAreOwed x = new LightYearsAreOwed();
        for (int n = 0; n < 6; n++) {
            CHECK.due("28: behind the last of " + n, x.taken(n, 0), NOTHING);
            x.light(n, n == 0 ? 0 : 9, 1);
            CHECK.due("28: the last of " + (n + 1), x.taken(n, n), n == 0 ? 0 : 9);
        }
        EDGE.bounds("28: light", v -> x.taken(v, 0), 0, 0, 5, 9, NOTHING);
        EDGE.bounds("28: k", v -> x.taken(5, v), 0, 9, 5, 9, BAD);
    }

    /** "BAD: k; -11: no such LIGHT; -13". */
    private static void takenInOrder() {
        LightYearsAreOwed x = new LightYearsAreOwed();
        int[] none = {-1, 0, 1, 6, LEAST, MOST};
        for (int light : none) {
            EDGE.refused("28: k ahead of -11", v -> x.taken(light, v), BAD, -1, 6, LEAST, MOST);
            EDGE.refused("28: no such light ahead of -13", v -> x.taken(light, v), NOTHING,
                    0, 1, 2, 3, 4, 5);
        }
        x.light(0, 5, 1);
        EDGE.refused("28: k ahead of all", v -> x.taken(0, v), BAD, -1, 6);
        EDGE.refused("28: of another kind", v -> x.taken(0, v), UNLIKE, 1, 2, 3, 4, 5);
    }

    /** A twin, a red and a lamp are under a light, a comet under a twin, a giant under a red. */
    private static void takenByKinds() {
        String[] under = {"0", "01", "02", "013", "024", "05"};
        for (int number = 0; number <= 9; number += 9) {
            for (int kind = 0; kind < 6; kind++) {
                LightYearsAreOwed x = new LightYearsAreOwed();
                x.light(kind, number, 1);
                for (int k = 0; k < 6; k++) {
                    CHECK.due("28: kind " + kind + " for " + k, x.taken(0, k),
                            under[kind].indexOf('0' + k) >= 0 ? number : UNLIKE);
                }
                x.set(1, 0, 4);
                CHECK.due("28: its number now", x.taken(0, kind), 4);
            }
        }
    }
}
