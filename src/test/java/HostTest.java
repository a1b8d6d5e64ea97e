/** Promises 24 to 28: sheet, cell, copy, lights, taken. */
public final class HostTest {
    private static final Check CHECK = new Check("HostTest");

    public static void main(String[] args) {
        promise24Sheet();
        promise25Cell();
        promise25Bits();
        promise26Copy();
        promise26Refusals();
        promise27Lights();
        promise27Full();
        promise27Refusals();
        promise28Taken();
        CHECK.end();
    }

    /** Is item i of a sheet of ints v? By six lights that each owe an item. */
    private static void item(LightYearsAreOwed x, int sheet, int sort, int i, int v, String what) {
        x.sheet(3, sort, 3);
        x.copy(sheet, i, 3, 0, 1);
        x.cell(3, 1, 5);
        x.cell(3, 2, 5);
        x.image();
        CHECK.due(what + ": a kind by it", x.lights(3, sort, 0, 1), 1);
        CHECK.due(what, x.told(x.count(0) - 1, 6), v);
        x.back();
    }

    private static void promise24Sheet() {
        LightYearsAreOwed x = new LightYearsAreOwed();
        for (int sort = 0; sort < 3; sort++) {
            CHECK.due("24: of sort " + sort, x.sheet(sort, sort, 40), 1);
            CHECK.due("24: its last place", x.cell(sort, 39, 5), 1);
            CHECK.due("24: not more", x.cell(sort, 40, 5), -12);
            x.cell(sort, 0, 5);
            CHECK.due("24: anew", x.sheet(sort, sort, 40), 1);
            item(x, sort, sort, 39, 0, "24: all 0");
            item(x, sort, sort, 0, 0, "24: from the first on");
        }
        CHECK.due("24: none of them", x.sheet(0, 2, 0), 1);
        CHECK.due("24: no place", x.cell(0, 0, 0), -12);
        CHECK.due("24: missing", x.sheet(0, -1, -9), 1);
        CHECK.due("24: n does not matter", x.sheet(0, -1, 41), 1);
        CHECK.due("24: it is", x.cell(0, 0, 0), -11);
        CHECK.due("24: sheet -1", x.sheet(-1, 0, 1), -2);
        CHECK.due("24: sheet 4", x.sheet(4, 0, 1), -2);
        CHECK.due("24: sort -2", x.sheet(0, -2, 1), -2);
        CHECK.due("24: sort 3", x.sheet(0, 3, 1), -2);
        CHECK.due("24: n 41", x.sheet(0, 0, 41), -2);
        CHECK.due("24: n -1", x.sheet(0, 0, -1), -14);
        CHECK.due("24: n far below", x.sheet(0, 0, Integer.MIN_VALUE), -14);
        CHECK.due("24: n far above", x.sheet(0, 0, Integer.MAX_VALUE), -2);
        CHECK.due("24: BAD is ahead of -14", x.sheet(4, 0, -1), -2);
        CHECK.due("24: of the sort, too", x.sheet(0, 3, -1), -2);
        CHECK.due("24: still missing", x.cell(0, 0, 0), -11);
        x.sheet(0, 0, 3);
        x.sheet(0, 0, -1);
        CHECK.due("24: refused, it stays", x.cell(0, 2, 0), 1);
    }

    private static void promise25Cell() {
        LightYearsAreOwed x = new LightYearsAreOwed();
        CHECK.due("25: missing", x.cell(2, 0, 0), -11);
        CHECK.due("25: missing is ahead of outside", x.cell(2, -1, 0), -11);
        x.sheet(2, 2, 2);
        CHECK.due("25: place 0", x.cell(2, 0, 4), 1);
        CHECK.due("25: place 1", x.cell(2, 1, 3), 1);
        CHECK.due("25: place 2", x.cell(2, 2, 0), -12);
        CHECK.due("25: place -1", x.cell(2, -1, 0), -12);
        CHECK.due("25: far off", x.cell(2, Integer.MAX_VALUE, 0), -12);
        CHECK.due("25: far below", x.cell(2, Integer.MIN_VALUE, 0), -12);
        CHECK.due("25: sheet -1", x.cell(-1, 0, 0), -2);
        CHECK.due("25: sheet 4", x.cell(4, 0, 0), -2);
        item(x, 2, 2, 0, 4, "25: item 0");
        item(x, 2, 2, 1, 3, "25: item 1");
    }

    private static void promise25Bits() {
        LightYearsAreOwed x = new LightYearsAreOwed();
        for (int sort = 0; sort < 3; sort++) {
            x.sheet(sort, sort, 2);
            x.cell(sort, 0, 3);
            item(x, sort, sort, 0, 3, "25: 3 of sort " + sort);
        }
        x.cell(0, 0, 256 + 3);
        item(x, 0, 0, 0, 3, "25: a byte's lowest 8");
        x.cell(1, 0, 65536 + 3);
        item(x, 1, 1, 0, 3, "25: a short's lowest 16");
        x.cell(0, 0, -253);
        item(x, 0, 0, 0, 3, "25: of a number below 0");
        x.light(0, 0, 1);
        x.look(0, 0, 4095);
        Told.dues(x, "25");
        CHECK.due("25: owed", x.owes(0, 0, 0), 300);
        Told.row(x, 0, 0, 300);
        CHECK.due("25: a byte can't tell 300", x.tells(0, 0, 0), 0);
        Told.row(x, 0, 1, 300);
        CHECK.due("25: a short can", x.tells(0, 0, 0), -1);
        Told.row(x, 0, 1, 65536 + 300);
        CHECK.due("25: by its lowest bits", x.tells(0, 0, 0), -1);
        Told.row(x, 0, 2, 65536 + 300);
        CHECK.due("25: an int has them all", x.tells(0, 0, 0), 0);
        x.look(0, 0, 255);
        CHECK.due("25: owed 200", x.owes(0, 0, 0), 200);
        Told.row(x, 0, 0, 200);
        CHECK.due("25: a byte is -128 .. 127", x.tells(0, 0, 0), 0);
    }

    private static void promise26Copy() {
        LightYearsAreOwed x = new LightYearsAreOwed();
        Told.row(x, 0, 2, 0, 1, 2, 3, 4, 5);
        Told.row(x, 1, 2, 5, 5, 5, 5);
        CHECK.due("26: two", x.copy(0, 3, 1, 1, 2), 2);
        int[] other = {5, 3, 4, 5};
        for (int i = 0; i < 4; i++) {
            item(x, 1, 2, i, other[i], "26: item " + i);
        }
        CHECK.due("26: within one sheet, up", x.copy(0, 0, 0, 1, 5), 5);
        int[] up = {0, 0, 1, 2, 3, 4};
        for (int i = 0; i < 6; i++) {
            item(x, 0, 2, i, up[i], "26: up, item " + i);
        }
        CHECK.due("26: within one sheet, down", x.copy(0, 2, 0, 0, 4), 4);
        int[] down = {1, 2, 3, 4, 3, 4};
        for (int i = 0; i < 6; i++) {
            item(x, 0, 2, i, down[i], "26: down, item " + i);
        }
        CHECK.due("26: none", x.copy(0, 0, 1, 0, 0), 0);
        CHECK.due("26: none, at the ends", x.copy(0, 6, 1, 4, 0), 0);
        CHECK.due("26: all", x.copy(1, 0, 0, 2, 4), 4);
        item(x, 0, 2, 5, 5, "26: the last");
    }

    private static void promise26Refusals() {
        LightYearsAreOwed x = new LightYearsAreOwed();
        x.sheet(0, 0, 4);
        x.sheet(1, 0, 3);
        x.sheet(2, 1, 3);
        CHECK.due("26: sheet -1", x.copy(-1, 0, 1, 0, 1), -2);
        CHECK.due("26: sheet 4", x.copy(4, 0, 1, 0, 1), -2);
        CHECK.due("26: other -1", x.copy(0, 0, -1, 0, 1), -2);
        CHECK.due("26: other 4", x.copy(0, 0, 4, 0, 1), -2);
        CHECK.due("26: BAD is ahead of -11", x.copy(3, 0, 4, 0, 1), -2);
        CHECK.due("26: from missing", x.copy(3, 0, 1, 0, 1), -11);
        CHECK.due("26: to missing", x.copy(0, 0, 3, 0, 1), -11);
        CHECK.due("26: -11 is ahead of -12", x.copy(0, 9, 3, 0, -1), -11);
        CHECK.due("26: unlike sorts", x.copy(0, 0, 2, 0, 1), -13);
        CHECK.due("26: -13 is ahead of -12", x.copy(0, 9, 2, 0, -1), -13);
        CHECK.due("26: even none", x.copy(0, 0, 2, 0, 0), -13);
        CHECK.due("26: i -1", x.copy(0, -1, 1, 0, 1), -12);
        CHECK.due("26: j -1", x.copy(0, 0, 1, -1, 1), -12);
        CHECK.due("26: n -1", x.copy(0, 1, 1, 1, -1), -12);
        CHECK.due("26: i + n above", x.copy(0, 3, 1, 0, 2), -12);
        CHECK.due("26: j + n above", x.copy(0, 0, 1, 2, 2), -12);
        CHECK.due("26: i outside, none", x.copy(0, 5, 1, 0, 0), -12);
        CHECK.due("26: a sum that wraps", x.copy(0, Integer.MAX_VALUE, 1, 0, 1), -12);
        CHECK.due("26: another", x.copy(0, 1, 1, 1, Integer.MAX_VALUE), -12);
        CHECK.due("26: another", x.copy(0, 0, 1, Integer.MAX_VALUE, Integer.MAX_VALUE), -12);
        x.sheet(1, 2, 3);
        x.sheet(2, 2, 3);
        x.cell(1, 0, 5);
        CHECK.due("26: refused", x.copy(1, 0, 2, 1, 3), -12);
        item(x, 2, 2, 1, 0, "26: nothing came");
    }

    private static void promise27Lights() {
        LightYearsAreOwed x = new LightYearsAreOwed();
        Told.row(x, 0, 2, 9, 4, 7, 321, 6, 0, 1, 1, 2, 3, 0, 10, 1, 0, 0, 0);
        CHECK.due("27: from 1 on, the good ones", x.lights(0, 2, 1, 3), 2);
        CHECK.due("27: two", x.count(0), 2);
        CHECK.due("27: kind", x.told(0, 6), 4);
        CHECK.due("27: number", x.told(0, 1), 7);
        CHECK.due("27: years", x.told(0, 2), 321);
        CHECK.due("27: kind of the other", x.told(1, 6), 1);
        CHECK.due("27: number of the other", x.told(1, 1), 2);
        CHECK.due("27: years of the other", x.told(1, 2), 3);
        CHECK.due("27: none asked", x.lights(0, 2, 1, 0), 0);
        CHECK.due("27: none asked, from nowhere", x.lights(0, 2, -7, 0), 0);
        CHECK.due("27: what stood ahead came", x.lights(0, 2, 1, 6), -12);
        CHECK.due("27: four", x.count(0), 4);
        Told.row(x, 1, 0, 0, 0, 1);
        CHECK.due("27: of bytes, just so long", x.lights(1, 0, 0, 1), 1);
        CHECK.due("27: from -1", x.lights(1, 0, -1, 1), -12);
        CHECK.due("27: from 1", x.lights(1, 0, 1, 1), -12);
        CHECK.due("27: from far off", x.lights(1, 0, Integer.MAX_VALUE, 1), -12);
        CHECK.due("27: from far off, more", x.lights(1, 0, Integer.MAX_VALUE - 1, 6), -12);
        CHECK.due("27: from far below", x.lights(1, 0, Integer.MIN_VALUE, 6), -12);
        CHECK.due("27: a piece of one", x.lights(1, 0, 2, 1), -12);
        CHECK.due("27: five", x.count(0), 5);
        Told.row(x, 1, 0, 0, 0, 200);
        CHECK.due("27: a byte is no 200", x.lights(1, 0, 0, 1), 0);
        Told.row(x, 1, 1, 0, 0, 200);
        CHECK.due("27: a short is", x.lights(1, 1, 0, 1), 1);
    }

    private static void promise27Full() {
        LightYearsAreOwed x = new LightYearsAreOwed();
        x.light(0, 0, 1);
        Told.row(x, 0, 0, 0, 0, 1, 0, 0, 2, 0, 0, 3, 0, 0, 4, 0, 0, 5, 0, 0, 6);
        CHECK.due("27: five came, one is left out", x.lights(0, 0, 0, 6), 5);
        CHECK.due("27: six", x.count(0), 6);
        CHECK.due("27: none has room", x.lights(0, 0, 0, 6), 0);
        CHECK.due("27: outside all the same", x.lights(0, 0, 3, 6), -12);
    }

    private static void promise27Refusals() {
        LightYearsAreOwed x = new LightYearsAreOwed();
        x.sheet(0, 1, 3);
        CHECK.due("27: sheet -1", x.lights(-1, 0, 0, 0), -2);
        CHECK.due("27: sheet 4", x.lights(4, 0, 0, 0), -2);
        CHECK.due("27: sort -1", x.lights(1, -1, 0, 0), -2);
        CHECK.due("27: sort 3", x.lights(0, 3, 0, 0), -2);
        CHECK.due("27: n -1", x.lights(0, 1, 0, -1), -2);
        CHECK.due("27: n 7", x.lights(0, 1, 0, 7), -2);
        CHECK.due("27: BAD is ahead of -13", x.lights(0, 0, 0, 7), -2);
        CHECK.due("27: BAD is ahead of -11", x.lights(1, 0, 0, 7), -2);
        CHECK.due("27: bytes they aren't", x.lights(0, 0, 0, 0), -13);
        CHECK.due("27: ints they aren't", x.lights(0, 2, 0, 0), -13);
        CHECK.due("27: -13 is ahead of -12", x.lights(0, 0, 9, 1), -13);
        CHECK.due("27: missing, of any sort", x.lights(1, 2, 9, 1), -11);
        CHECK.due("27: missing, none asked", x.lights(1, 0, 0, 0), -11);
    }

    /** Which kinds a light of each kind can be taken for. */
    private static void promise28Taken() {
        LightYearsAreOwed x = new LightYearsAreOwed();
        boolean[][] under = {
            {true, false, false, false, false, false},
            {true, true, false, false, false, false},
            {true, false, true, false, false, false},
            {true, true, false, true, false, false},
            {true, false, true, false, true, false},
            {true, false, false, false, false, true}};
        for (int kind = 0; kind < 6; kind++) {
            CHECK.due("28: no such light", x.taken(kind, kind), -11);
            x.light(kind, kind + 2, 1);
            for (int k = 0; k < 6; k++) {
                CHECK.due("28: kind " + kind + " taken for " + k,
                        x.taken(kind, k), under[kind][k] ? kind + 2 : -13);
            }
        }
        CHECK.due("28: k -1", x.taken(0, -1), -2);
        CHECK.due("28: k 6", x.taken(0, 6), -2);
        CHECK.due("28: BAD is ahead of -11", x.taken(6, 6), -2);
        CHECK.due("28: light -1", x.taken(-1, 0), -11);
        CHECK.due("28: light 6", x.taken(6, 0), -11);
    }
}
