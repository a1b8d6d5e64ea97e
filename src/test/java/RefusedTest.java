import java.util.List;

/**
 * "Refusals .. change nothing": an object that was refused a call tells all the same as one that
 * was not asked, for each refusal that a call's words name.
 */
public final class RefusedTest {
    private static final Check CHECK = new Check("RefusedTest");
    private static final int BAD = -2, STATE = -3, FULL = -4;
    private static final int NOTHING = -11, OUTSIDE = -12, UNLIKE = -13, BELOW = -14;
    private static final int LEAST = Integer.MIN_VALUE, MOST = Integer.MAX_VALUE;
    private static final long NO = -4611686018427387904L;

    private interface Call {
        long of(LightYearsAreOwed x);
    }

    public static void main(String[] args) {
        theTestTellsChanges();
        set();
        lightLookTold();
        feedForce();
        owesAllPieces();
        pay();
        best();
        tellsFilm();
        chanceCount();
        back();
        sheetCell();
        copy();
        lightsTaken();
        lightFull();
        feedFull();
        textFull();
        CHECK.end();
    }

    private static String firstUnlike(List<String> told, List<String> want) {
        for (int i = 0; i < told.size() && i < want.size(); i++) {
            if (!told.get(i).equals(want.get(i))) {
                return told.get(i) + ", not as ever: " + want.get(i);
            }
        }
        return told.size() == want.size() ? "" : "more or less is told";
    }

    private static void refused(String name, boolean image, long refusal, Call call) {
        LightYearsAreOwed x = Whole.made(image);
        CHECK.due(name, call.of(x), refusal);
        String unlike = firstUnlike(Whole.told(x), Whole.told(Whole.made(image)));
        CHECK.isTrue(name + " changes nothing; but " + unlike, unlike.isEmpty());
    }

    private static void refused(String name, long refusal, Call call) {
        refused(name, true, refusal, call);
    }

    private static void changes(String name, Call call) {
        LightYearsAreOwed x = Whole.made(true);
        call.of(x);
        CHECK.isTrue(name + " is told", !firstUnlike(Whole.told(x),
                Whole.told(Whole.made(true))).isEmpty());
    }

    /** Each change that a call can make is seen: else the other tests would tell nothing. */
    private static void theTestTellsChanges() {
        for (int what = 0; what < 6; what++) {
            int w = what;
            changes("set " + what, x -> x.set(w, 0, 9));
        }
        changes("light", x -> x.light(0, 0, 1));
        changes("look", x -> x.look(3, 2, 1));
        changes("feed", x -> x.feed(32));
        changes("text", x -> x.text());
        changes("force", x -> x.force(0));
        changes("pay", x -> x.set(5, 0, 20) + x.pay(3));
        changes("film", x -> x.film(2, 0));
        changes("image", x -> x.image());
        changes("back", x -> x.back());
        changes("sheet", x -> x.sheet(1, 1, 6));
        changes("sheet 3", x -> x.sheet(3, 0, 0));
        changes("missing", x -> x.sheet(0, -1, 0));
        changes("cell of bytes", x -> x.cell(0, 5, 7));
        changes("cell of shorts", x -> x.cell(1, 0, 7));
        changes("cell of ints", x -> x.cell(2, 2, 7));
        changes("copy", x -> x.copy(0, 0, 0, 1, 5));
        changes("lights", x -> x.lights(2, 2, 0, 1));
    }

    private static void set() {
        int[][] calls = {{-1, 0, 1}, {6, 0, 1}, {7, 0, 1}, {LEAST, 0, 1}, {MOST, 0, 1},
            {0, 0, -1}, {0, 0, 4096}, {0, 0, LEAST}, {0, 0, MOST}, {1, -1, 1}, {1, 3, 1},
            {1, 0, -1}, {1, 0, 10}, {2, -1, 1}, {2, 3, 1}, {2, 0, 0}, {2, 0, 1000}, {3, -1, 1},
            {3, 5, 1}, {3, 0, -1}, {3, 0, 100}, {4, -1, 1}, {4, 4, 1}, {4, 0, 0}, {4, 0, 100},
            {5, -1, 1}, {5, 4, 1}, {5, 0, -1}, {5, 0, 21}, {1, 6, 1}, {2, 6, 1}};
        for (int[] c : calls) {
            refused("2: set(" + c[0] + ", " + c[1] + ", " + c[2] + ")", BAD,
                    x -> x.set(c[0], c[1], c[2]));
        }
    }

    private static void lightLookTold() {
        int[][] lights = {{-1, 0, 1}, {6, 0, 1}, {0, -1, 1}, {0, 10, 1}, {0, 0, 0}, {0, 0, 1000}};
        for (int[] c : lights) {
            refused("3: light(" + c[0] + ", " + c[1] + ", " + c[2] + ")", BAD,
                    x -> x.light(c[0], c[1], c[2]));
        }
        int[][] looks = {{-1, 0, 1}, {5, 0, 1}, {0, -1, 1}, {0, 3, 1}, {0, 6, 1}, {4, -24, 1},
            {0, 0, -1}, {0, 0, 4096}, {LEAST, 0, 1}, {0, MOST, 1}};
        for (int[] c : looks) {
            refused("4: look(" + c[0] + ", " + c[1] + ", " + c[2] + ")", BAD,
                    x -> x.look(c[0], c[1], c[2]));
        }
        int[][] told = {{0, -1}, {0, 10}, {3, 1}, {-1, 2}, {5, 3}, {4, 4}, {-1, 5}, {3, 6},
            {5, 7}, {-1, 8}, {5, 9}};
        for (int[] c : told) {
            refused("5: told(" + c[0] + ", " + c[1] + ")", BAD, x -> x.told(c[0], c[1]));
        }
    }

    private static void feedForce() {
        for (int letter : new int[] {-1, 256, LEAST, MOST}) {
            refused("6: feed(" + letter + ")", BAD, x -> x.feed(letter));
        }
        for (int text : new int[] {-1, 3, 6, LEAST, MOST}) {
            refused("8: force(" + text + ")", BAD, x -> x.force(text));
        }
    }

    private static void owesAllPieces() {
        int[][] owes = {{-1, 0, 0}, {5, 0, 0}, {0, -1, 0}, {0, 3, 0}, {0, 0, -1}, {0, 0, 2},
            {0, 0, 9}, {0, 0, 22}};
        for (int[] c : owes) {
            refused("9: owes(" + c[0] + ", " + c[1] + ", " + c[2] + ")", BAD,
                    x -> x.owes(c[0], c[1], c[2]));
        }
        for (int what : new int[] {-1, 3, LEAST, MOST}) {
            refused("10: all(" + what + ")", BAD, x -> x.all(what));
        }
        int[][] pieces = {{-1, 0}, {1000, 0}, {0, -1}, {0, 3}, {LEAST, 2}, {MOST, 2}};
        for (int[] c : pieces) {
            refused("11: pieces(" + c[0] + ", " + c[1] + ")", BAD, x -> x.pieces(c[0], c[1]));
        }
    }

    /** Looker 0 owes 33: by pieces of 10 alone it can't be. */
    private static LightYearsAreOwed owing33() {
        LightYearsAreOwed x = new LightYearsAreOwed();
        x.light(0, 0, 11);
        x.light(1, 0, 99);
        x.look(0, 0, 7);
        x.set(2, 0, 10);
        x.set(5, 2, 20);
        return x;
    }

    private static void stays(String name, LightYearsAreOwed x, int paid, int pieces) {
        CHECK.due(name, x.pay(0), STATE);
        CHECK.due(name + ", paid", x.told(0, 7), paid);
        CHECK.due(name + ", pieces", x.count(2), pieces);
    }

    private static void pay() {
        for (int one : new int[] {-1, 5, LEAST, MOST}) {
            refused("12: pay(" + one + ")", BAD, x -> x.pay(one));
        }
        LightYearsAreOwed x = owing33();
        CHECK.due("12: owed", x.told(0, 8), 33);
        stays("12: can't", x, 0, 20);
        x.set(5, 0, 2);
        stays("12: can't by two ones", x, 0, 22);
        x.set(5, 0, 3);
        CHECK.due("12: can by three", x.pay(0), 6);
        x.look(0, 1, 63);
        CHECK.due("12: owed, above 999", x.told(0, 8), 33 + 6 * 198 + 9 - 33);
        stays("12: above 999", x, 33, 17);
        LightYearsAreOwed y = Whole.made(true);
        LightYearsAreOwed z = Whole.made(true);
        for (int sort = 0; sort < 4; sort++) {
            y.set(5, sort, 0);
            z.set(5, sort, 0);
        }
        for (int one = 0; one < 4; one++) {
            CHECK.due("12: no pieces, " + one, y.pay(one), STATE);
        }
        String unlike = firstUnlike(Whole.told(y), Whole.told(z));
        CHECK.isTrue("12: STATE changes nothing; but " + unlike, unlike.isEmpty());
    }

    private static void best() {
        int[][] cheapest = {{-1, 0, 0}, {5, 0, 0}, {0, -1, 0}, {0, 3, 0}, {0, 0, -1}, {0, 0, 2}};
        for (int[] c : cheapest) {
            refused("13: cheapest(" + c[0] + ", " + c[1] + ", " + c[2] + ")", BAD,
                    x -> x.cheapest(c[0], c[1], c[2]));
        }
        int[][] leave = {{-1, 0}, {5, 0}, {0, -1}, {0, 2}};
        for (int[] c : leave) {
            refused("14: leave(" + c[0] + ", " + c[1] + ")", BAD, x -> x.leave(c[0], c[1]));
        }
        int[][] farm = {{-1, 0}, {5, 0}, {0, -1}, {0, 100000}};
        for (int[] c : farm) {
            refused("15: farm(" + c[0] + ", " + c[1] + ")", BAD, x -> x.farm(c[0], c[1]));
        }
        refused("15: farm for too much", -1, x -> x.farm(0, 99999));
        int[][] walk = {{-1, 0, 0}, {100, 0, 0}, {0, -1, 0}, {0, 100000, 0}, {0, 0, -1}, {0, 0, 3}};
        for (int[] c : walk) {
            refused("16: walk(" + c[0] + ", " + c[1] + ", " + c[2] + ")", BAD,
                    x -> x.walk(c[0], c[1], c[2]));
        }
        refused("13: what would be is not", 1, x -> x.cheapest(2, 1, 0) < 0 ? 0 : 1);
        refused("14: what would be is not", 1, x -> x.leave(2, 0) < 0 ? 0 : 1);
        refused("15: what would be is not", 1, x -> x.farm(2, 1) < 0 ? 0 : 1);
        refused("16: walking changes nothing", 5, x -> x.walk(2, 0, 2));
    }

    private static void tellsFilm() {
        int[][] tells = {{-1, 0, 0}, {4, 0, 0}, {2, -1, 0}, {2, 5, 0}, {2, 0, -1}, {2, 0, 3},
            {2, 0, 9}, {2, 0, 13}, {2, 0, 49}, {2, 0, 50}, {0, 0, 0}, {1, 0, 1}};
        for (int[] c : tells) {
            refused("17: tells(" + c[0] + ", " + c[1] + ", " + c[2] + ")", BAD,
                    x -> x.tells(c[0], c[1], c[2]));
        }
        refused("17: tells by a missing sheet", NOTHING, x -> x.tells(3, 0, 0));
        for (int what : new int[] {0, 1, 2, 10, 21, 32, 41}) {
            refused("17: trying changes nothing, " + what, 1,
                    x -> x.tells(2, 0, what) < -1 ? 0 : 1);
        }
        int[][] film = {{-1, 0}, {4, 0}, {0, -1}, {1, 5}, {3, 5}, {LEAST, 0}, {2, MOST}};
        for (int[] c : film) {
            refused("18: film(" + c[0] + ", " + c[1] + ")", BAD, x -> x.film(c[0], c[1]));
        }
    }

    private static void chanceCount() {
        int[][] chance = {{0, 0, 0}, {21, 0, 0}, {-1, 0, 0}, {1, -1, 0}, {1, 100000, 0}, {1, 0, -1},
            {1, 0, 2}};
        for (int[] c : chance) {
            refused("20: chance(7, " + c[0] + ", " + c[1] + ", " + c[2] + ")", NO,
                    x -> x.chance(7, c[0], c[1], c[2]));
        }
        refused("19: drawing changes nothing", 1, x -> x.drawn(0) < 0 ? 0 : 1);
        refused("20: chances change nothing", 1, x -> x.chance(0, 20, 0, 0));
        for (int what : new int[] {-1, 6, LEAST, MOST}) {
            refused("23: count(" + what + ")", BAD, x -> x.count(what));
        }
    }

    private static void back() {
        refused("22: back() without an image", false, STATE, x -> x.back());
    }

    private static void sheetCell() {
        int[][] sheet = {{-1, 0, 1, BAD}, {4, 0, 1, BAD}, {0, -2, 1, BAD}, {0, 3, 1, BAD},
            {0, 0, 41, BAD}, {1, 1, MOST, BAD}, {3, 0, 41, BAD}, {0, 0, -1, BELOW},
            {1, 1, -1, BELOW}, {2, 2, LEAST, BELOW}, {3, 0, -1, BELOW}, {4, -1, 0, BAD}};
        for (int[] c : sheet) {
            refused("24: sheet(" + c[0] + ", " + c[1] + ", " + c[2] + ")", c[3],
                    x -> x.sheet(c[0], c[1], c[2]));
        }
        int[][] cell = {{-1, 0, BAD}, {4, 0, BAD}, {3, 0, NOTHING}, {3, -1, NOTHING},
            {0, -1, OUTSIDE}, {0, 6, OUTSIDE}, {1, LEAST, OUTSIDE}, {2, 3, OUTSIDE},
            {2, MOST, OUTSIDE}, {2, 40, OUTSIDE}};
        for (int[] c : cell) {
            refused("25: cell(" + c[0] + ", " + c[1] + ", 9)", c[2], x -> x.cell(c[0], c[1], 9));
        }
    }

    private static void copy() {
        int[][] calls = {{-1, 0, 0, 0, 1, BAD}, {4, 0, 0, 0, 1, BAD}, {0, 0, -1, 0, 1, BAD},
            {0, 0, 4, 0, 1, BAD}, {3, 0, 0, 0, 1, NOTHING}, {0, 0, 3, 0, 1, NOTHING},
            {0, 0, 1, 0, 1, UNLIKE}, {1, 0, 2, 0, 1, UNLIKE}, {2, 0, 0, 0, 1, UNLIKE},
            {0, -1, 0, 0, 2, OUTSIDE}, {0, 0, 0, -1, 2, OUTSIDE}, {0, 0, 0, 1, 6, OUTSIDE},
            {0, 1, 0, 0, 6, OUTSIDE}, {0, 1, 0, 0, -1, OUTSIDE}, {0, 7, 0, 0, 0, OUTSIDE},
            {0, 0, 0, 0, MOST, OUTSIDE}, {1, MOST, 1, 0, 1, OUTSIDE}, {1, 0, 1, MOST, 1, OUTSIDE},
            {1, LEAST, 1, 0, 1, OUTSIDE}, {1, 0, 1, 1, LEAST, OUTSIDE}};
        for (int[] c : calls) {
            refused("26: copy(" + c[0] + ", " + c[1] + ", " + c[2] + ", " + c[3] + ", " + c[4] + ")",
                    c[5], x -> x.copy(c[0], c[1], c[2], c[3], c[4]));
        }
    }

    private static void lightsTaken() {
        int[][] lights = {{-1, 0, 0, 1, BAD}, {4, 0, 0, 1, BAD}, {0, -1, 0, 1, BAD},
            {0, 3, 0, 1, BAD}, {0, 0, 0, -1, BAD}, {0, 0, 0, 7, BAD}, {0, 1, 0, 1, UNLIKE},
            {0, 2, 0, 1, UNLIKE}, {2, 0, 0, 1, UNLIKE}, {3, 0, 0, 1, NOTHING},
            {0, 0, -1, 1, OUTSIDE}, {0, 0, 4, 1, OUTSIDE}, {0, 0, 6, 1, OUTSIDE},
            {2, 2, 1, 6, OUTSIDE}, {0, 0, MOST, 6, OUTSIDE}, {0, 0, LEAST, 6, OUTSIDE}};
        for (int[] c : lights) {
            refused("27: lights(" + c[0] + ", " + c[1] + ", " + c[2] + ", " + c[3] + ")", c[4],
                    x -> x.lights(c[0], c[1], c[2], c[3]));
        }
        refused("27: none asked", 0, x -> x.lights(0, 0, 0, 0));
        int[][] taken = {{0, -1, BAD}, {0, 6, BAD}, {3, 0, NOTHING}, {-1, 0, NOTHING},
            {0, 1, UNLIKE}, {0, 5, UNLIKE}};
        for (int[] c : taken) {
            refused("28: taken(" + c[0] + ", " + c[1] + ")", c[2], x -> x.taken(c[0], c[1]));
        }
    }

    private static LightYearsAreOwed withSixLights() {
        LightYearsAreOwed x = Whole.made(true);
        for (int i = 3; i < 6; i++) {
            x.light(i, i, i);
        }
        return x;
    }

    private static void lightFull() {
        LightYearsAreOwed x = withSixLights();
        CHECK.due("3: full", x.light(0, 0, 1), FULL);
        CHECK.due("3: full, BAD", x.light(6, 0, 1), BAD);
        CHECK.due("27: full, none comes", x.lights(2, 2, 0, 1), 0);
        String unlike = firstUnlike(Whole.told(x), Whole.told(withSixLights()));
        CHECK.isTrue("3: FULL changes nothing; but " + unlike, unlike.isEmpty());
    }

    private static void feedFull() {
        LightYearsAreOwed x = new LightYearsAreOwed();
        String text = "dues 3;offs 4;extras 5;";
        Told.feed(x, " ".repeat(160 - text.length()) + text);
        CHECK.due("6: full", x.feed('@'), FULL);
        CHECK.due("6: full, BAD", x.feed(-1), BAD);
        CHECK.due("6: 160 bytes", x.count(4), 160);
        CHECK.due("6: they are a text still", x.text(), 1);
        x.light(0, 0, 1);
        x.look(0, 0, 7);
        x.force(1);
        CHECK.due("6: as it was", x.owes(0, 0, 0), 9 + 5 - 4);
    }

    private static LightYearsAreOwed withSixTexts() {
        LightYearsAreOwed x = new LightYearsAreOwed();
        for (int i = 1; i < 6; i++) {
            Told.text(x, "dues " + i + ";offs 0;extras 0;");
        }
        x.light(0, 0, 7);
        x.look(0, 0, 1);
        x.force(5);
        Told.feed(x, "dues 8;offs 0;extras 0;");
        return x;
    }

    private static void textFull() {
        LightYearsAreOwed x = withSixTexts();
        CHECK.due("7: full", x.text(), FULL);
        CHECK.due("7: the rule", x.count(5), 5);
        CHECK.due("7: no text more", x.force(6), BAD);
        for (int i = 1; i < 6; i++) {
            x.force(i);
            CHECK.due("7: as it told, " + i, x.owes(0, 0, 0), i);
        }
        x.force(0);
        CHECK.due("7: as the first told", x.owes(0, 0, 0), 7);
        CHECK.due("7: the tape", x.count(4), 23);
        CHECK.due("7: goes on", x.feed(32), 24);
    }
}
