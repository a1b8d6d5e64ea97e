/** Promises 1 to 5: a new object, set, light, look, told. */
public final class LightsTest {
    private static final Check CHECK = new Check("LightsTest");

    public static void main(String[] args) {
        promise1NewObject();
        promise2Set();
        promise2SetBad();
        promise3Light();
        promise4Look();
        promise5Told();
        CHECK.end();
    }

    private static void promise1NewObject() {
        LightYearsAreOwed x = new LightYearsAreOwed();
        CHECK.due("1: lights", x.count(0), 0);
        CHECK.due("1: clouds", x.count(1), 0);
        CHECK.due("1: pieces", x.count(2), 0);
        CHECK.due("1: texts", x.count(3), 1);
        CHECK.due("1: bytes of the tape", x.count(4), 0);
        CHECK.due("1: the rule", x.count(5), 0);
        CHECK.due("1: no image", x.back(), -3);
        int[] bright = {1, 5, 10, 50};
        for (int i = 0; i < 4; i++) {
            CHECK.due("1: how bright " + i, x.told(i, 4), bright[i]);
            CHECK.due("1: how many " + i, x.told(i, 5), 0);
            CHECK.due("1: no sheet " + i, x.cell(i, 0, 0), -11);
        }
        for (int i = 0; i < 5; i++) {
            CHECK.due("1: mile of " + i, x.told(i, 3), 0);
            CHECK.due("1: paid by " + i, x.told(i, 7), 0);
            CHECK.due("1: all of " + i, x.told(i, 8), 0);
            CHECK.due("1: lights seen by " + i, x.told(i, 9), 0);
        }
        LightYearsAreOwed other = new LightYearsAreOwed();
        x.light(0, 0, 1);
        CHECK.due("1: another object has none of it", other.count(0), 0);
    }

    private static void promise2Set() {
        LightYearsAreOwed x = new LightYearsAreOwed();
        x.light(0, 3, 40);
        x.light(1, 4, 50);
        CHECK.due("2: clouds", x.set(0, 77, 4095), 0);
        CHECK.due("2: clouds again, of does not matter", x.set(0, -5, 5), 4095);
        CHECK.due("2: clouds told", x.told(9, 0), 5);
        CHECK.due("2: number", x.set(1, 1, 9), 4);
        CHECK.due("2: number 0", x.set(1, 1, 0), 9);
        CHECK.due("2: the other's number stays", x.told(0, 1), 3);
        CHECK.due("2: years", x.set(2, 0, 999), 40);
        CHECK.due("2: years 1", x.set(2, 0, 1), 999);
        CHECK.due("2: the other's years stay", x.told(1, 2), 50);
        CHECK.due("2: mile", x.set(3, 4, 99), 0);
        CHECK.due("2: mile 0", x.set(3, 4, 0), 99);
        CHECK.due("2: bright", x.set(4, 3, 99), 50);
        CHECK.due("2: bright 1", x.set(4, 3, 1), 99);
        CHECK.due("2: many", x.set(5, 2, 20), 0);
        CHECK.due("2: many 0", x.set(5, 2, 0), 20);
    }

    private static void promise2SetBad() {
        LightYearsAreOwed x = new LightYearsAreOwed();
        x.light(0, 3, 40);
        int[][] bad = {{-1, 0, 0}, {6, 0, 0}, {0, 0, -1}, {0, 0, 4096}, {1, -1, 0}, {1, 1, 0},
            {1, 0, -1}, {1, 0, 10}, {2, 1, 5}, {2, -1, 5}, {2, 0, 0}, {2, 0, 1000}, {3, -1, 0},
            {3, 5, 0}, {3, 0, -1}, {3, 0, 100}, {4, -1, 1}, {4, 4, 1}, {4, 0, 0}, {4, 0, 100},
            {5, -1, 0}, {5, 4, 0}, {5, 0, -1}, {5, 0, 21},
            {Integer.MIN_VALUE, 0, 0}, {Integer.MAX_VALUE, 0, 0}, {1, Integer.MAX_VALUE, 0},
            {3, Integer.MIN_VALUE, 0}, {2, 0, Integer.MIN_VALUE}};
        for (int[] b : bad) {
            CHECK.due("2: set(" + b[0] + ", " + b[1] + ", " + b[2] + ")",
                    x.set(b[0], b[1], b[2]), -2);
        }
        CHECK.due("2: nothing changed", x.told(0, 0), 0);
        CHECK.due("2: nothing changed in number", x.told(0, 1), 3);
        CHECK.due("2: nothing changed in years", x.told(0, 2), 40);
        CHECK.due("2: nothing changed in bright", x.told(0, 4), 1);
    }

    private static void promise3Light() {
        LightYearsAreOwed x = new LightYearsAreOwed();
        CHECK.due("3: kind -1", x.light(-1, 0, 1), -2);
        CHECK.due("3: kind 6", x.light(6, 0, 1), -2);
        CHECK.due("3: number -1", x.light(0, -1, 1), -2);
        CHECK.due("3: number 10", x.light(0, 10, 1), -2);
        CHECK.due("3: years 0", x.light(0, 0, 0), -2);
        CHECK.due("3: years 1000", x.light(0, 0, 1000), -2);
        CHECK.due("3: none came", x.count(0), 0);
        for (int kind = 0; kind < 6; kind++) {
            CHECK.due("3: light " + kind, x.light(kind, 9 - kind, 999 - kind), kind);
            CHECK.due("3: its kind", x.told(kind, 6), kind);
            CHECK.due("3: its number", x.told(kind, 1), 9 - kind);
            CHECK.due("3: its years", x.told(kind, 2), 999 - kind);
        }
        CHECK.due("3: full", x.light(0, 0, 1), -4);
        CHECK.due("3: BAD is ahead of full", x.light(0, 0, 0), -2);
        CHECK.due("3: six", x.count(0), 6);
    }

    private static void promise4Look() {
        LightYearsAreOwed x = new LightYearsAreOwed();
        CHECK.due("4: no such light", x.look(0, 0, 1), -2);
        x.light(0, 0, 1);
        x.light(0, 0, 2);
        CHECK.due("4: none at first", x.look(4, 1, 4095), 0);
        CHECK.due("4: just those nights", x.look(4, 1, 6), 4095);
        CHECK.due("4: none", x.look(4, 1, 0), 6);
        CHECK.due("4: none it was", x.look(4, 1, 1), 0);
        CHECK.due("4: another looker's", x.look(3, 1, 1), 0);
        CHECK.due("4: another light's", x.look(4, 0, 1), 0);
        CHECK.due("4: looker -1", x.look(-1, 0, 0), -2);
        CHECK.due("4: looker 5", x.look(5, 0, 0), -2);
        CHECK.due("4: light -1", x.look(0, -1, 0), -2);
        CHECK.due("4: light 2", x.look(0, 2, 0), -2);
        CHECK.due("4: nights -1", x.look(4, 1, -1), -2);
        CHECK.due("4: nights 4096", x.look(4, 1, 4096), -2);
        CHECK.due("4: nothing changed", x.look(4, 1, 0), 1);
        x.image();
        x.light(0, 0, 3);
        for (int one = 0; one < 5; one++) {
            x.look(one, 2, 7);
        }
        x.back();
        x.light(0, 0, 4);
        for (int one = 0; one < 5; one++) {
            CHECK.due("4: none as a light comes, of " + one, x.look(one, 2, 0), 0);
        }
    }

    private static void promise5Told() {
        LightYearsAreOwed x = new LightYearsAreOwed();
        x.light(5, 7, 321);
        x.light(0, 0, 10);
        x.set(0, 0, 9);
        x.set(3, 1, 44);
        x.set(4, 2, 33);
        x.set(5, 2, 11);
        x.look(1, 0, 7);
        x.look(1, 1, 9);
        CHECK.due("5: clouds", x.told(0, 0), 9);
        CHECK.due("5: clouds, of does not matter", x.told(-77, 0), 9);
        CHECK.due("5: number", x.told(0, 1), 7);
        CHECK.due("5: years", x.told(0, 2), 321);
        CHECK.due("5: mile", x.told(1, 3), 44);
        CHECK.due("5: bright", x.told(2, 4), 33);
        CHECK.due("5: many", x.told(2, 5), 11);
        CHECK.due("5: kind", x.told(0, 6), 5);
        CHECK.due("5: paid", x.told(1, 7), 0);
        CHECK.due("5: all", x.told(1, 8), 2);
        CHECK.due("5: a light seen under clouds alone is none", x.told(1, 9), 1);
        x.set(0, 0, 0);
        CHECK.due("5: two lights now", x.told(1, 9), 2);
        CHECK.due("5: all without clouds", x.told(1, 8), 3 + 20);
        int[][] bad = {{0, -1}, {0, 10}, {2, 1}, {-1, 1}, {2, 2}, {-1, 2}, {5, 3}, {-1, 3}, {4, 4},
            {-1, 4}, {4, 5}, {-1, 5}, {2, 6}, {-1, 6}, {5, 7}, {-1, 7}, {5, 8}, {-1, 8}, {5, 9},
            {-1, 9}, {5, 10}, {0, Integer.MAX_VALUE}, {0, Integer.MIN_VALUE}};
        for (int[] b : bad) {
            CHECK.due("5: told(" + b[0] + ", " + b[1] + ")", x.told(b[0], b[1]), -2);
        }
    }
}
