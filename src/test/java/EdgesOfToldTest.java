/** Promises 17 to 23 at their edges: tells, film, drawn, chance, image, back, count. */
public final class EdgesOfToldTest {
    private static final Check CHECK = new Check("EdgesOfToldTest");
    private static final Edge EDGE = new Edge(CHECK);
    private static final int NONE = -1, BAD = -2, STATE = -3, INTS = 2;
    private static final long NO = -4611686018427387904L;
    private static final int[] FAR = {-1, 100, Integer.MIN_VALUE, Integer.MAX_VALUE};

    public static void main(String[] args) {
        tellsBounds();
        tellsWhat();
        tellsOfALightThatIs();
        tellsInOrder();
        tellsItsSize();
        tellsOfNoLights();
        tellsTheFirst();
        tellsKinds();
        tellsNumbers();
        tellsYears();
        tellsClouds();
        tellsTexts();
        filmBounds();
        filmOfAll();
        drawnOfNothing();
        drawnByAnySeed();
        drawnInsteadOfClouds();
        chanceBounds();
        chanceByJustAsMuch();
        chanceInLowestTerms();
        chanceOfSeedsThatWrap();
        noImage();
        imageOfNoLights();
        imageOfAll();
        imageAnew();
        backMakesRoom();
        backLeavesTheOthers();
        countBounds();
        countLeastAndMost();
        CHECK.end();
    }

    private static LightYearsAreOwed by(String dues) {
        return Told.by(dues, "0", "0");
    }

    /** Six lights; looker 4 looked at each in two nights, the others at none; sheets 0, 3 tell it. */
    private static LightYearsAreOwed sixTold() {
        LightYearsAreOwed x = by("10");
        for (int i = 0; i < 6; i++) {
            x.light(0, 3, 1);
            x.look(4, i, 3);
        }
        x.film(0, 4);
        x.film(3, 4);
        return x;
    }

    private static void tellsBounds() {
        LightYearsAreOwed x = sixTold();
        x.film(1, 4);
        x.film(2, 4);
        EDGE.bounds("17: sheet", v -> x.tells(v, 4, 0), 0, NONE, 3, NONE, BAD);
        EDGE.bounds("17: looker", v -> x.tells(0, v, 0), 0, 0, 4, NONE, BAD);
    }

    private static void tellsWhat() {
        LightYearsAreOwed x = sixTold();
        EDGE.bounds("17: what", v -> x.tells(0, 4, v), 0, NONE, 2, 4096 + 4095 - 3, BAD);
        EDGE.bounds("17: kinds", v -> x.tells(0, 4, v), 10, 1, 15, 1, BAD);
        EDGE.bounds("17: numbers", v -> x.tells(0, 4, v), 20, 1023, 25, 1023, BAD);
        EDGE.bounds("17: years", v -> x.tells(0, 4, v), 30, 999, 35, 999, BAD);
        EDGE.bounds("17: the least", v -> x.tells(0, 4, v), 40, 1, 45, 1, BAD);
        EDGE.refused("17: no what", v -> x.tells(0, 4, v), BAD, 3, 4, 5, 8, 9, 50, 51, 60, 110,
                -8, -9, -10, -11, -20, 1010);
    }

    /** "no such LIGHT": what modulo 10, for all four, however many lights there are. */
    private static void tellsOfALightThatIs() {
        LightYearsAreOwed x = by("10");
        for (int n = 0; n <= 6; n++) {
            x.film(0, 0);
            for (int what = 10; what < 50; what += 10) {
                for (int light = 0; light < 10; light++) {
                    int want = what == 10 ? 63 : what == 20 ? 1023 : what == 30 ? 999 : 1;
                    CHECK.due("17: of " + n + " lights, what " + (what + light),
                            x.tells(0, 0, what + light), light < n ? want : BAD);
                }
            }
            x.light(0, 3, 1);
        }
    }

    /** "BAD: SHEET, LOOKER, what, no such LIGHT; -11; BAD: its size isn't how many .." */
    private static void tellsInOrder() {
        LightYearsAreOwed x = sixTold();
        int[] whats = {0, 1, 2, 10, 25, 30, 45};
        for (int what : whats) {
            CHECK.due("17: missing, what " + what, x.tells(1, 4, what), -11);
        }
        EDGE.refused("17: looker ahead of missing", v -> x.tells(1, v, 0), BAD, -1, 5);
        EDGE.refused("17: what ahead of missing", v -> x.tells(1, 4, v), BAD, -1, 3, 9, 50);
        EDGE.refused("17: light ahead of missing", v -> x.tells(1, 4, v), BAD, 16, 29, 36, 49);
        LightYearsAreOwed none = new LightYearsAreOwed();
        CHECK.due("17: no lights, missing", none.tells(0, 0, 0), -11);
        CHECK.due("17: no lights, missing, of a light", none.tells(0, 0, 10), BAD);
        x.sheet(1, 0, 5);
        CHECK.due("17: there, its size is another", x.tells(1, 4, 0), BAD);
        x.sheet(1, -1, 0);
        CHECK.due("17: missing once more", x.tells(1, 4, 0), -11);
    }

    private static void tellsItsSize() {
        for (int n = 0; n <= 6; n++) {
            LightYearsAreOwed x = new LightYearsAreOwed();
            for (int i = 0; i < n; i++) {
                x.light(0, 0, 1);
            }
            int[] sizes = {0, n - 1, n, n + 1, 6, 7, 39, 40};
            for (int size : sizes) {
                for (int sort = 0; sort < 3 && size >= 0; sort++) {
                    x.sheet(0, sort, size);
                    CHECK.due("17: " + n + " lights, " + size + " of sort " + sort,
                            x.tells(0, 0, 0), size == n ? NONE : BAD);
                }
            }
        }
    }

    private static void tellsOfNoLights() {
        LightYearsAreOwed x = new LightYearsAreOwed();
        x.sheet(0, 0, 0);
        CHECK.due("17: none is otherwise", x.tells(0, 0, 0), NONE);
        CHECK.due("17: by the one text", x.tells(0, 0, 1), 1);
        CHECK.due("17: by any clouds", x.tells(0, 0, 2), 8191);
        for (int i = 1; i < 6; i++) {
            Told.text(x, "dues 1;offs 1;extras 1;");
        }
        CHECK.due("17: by all six texts", x.tells(0, 0, 1), 63);
    }

    private static void tellsTheFirst() {
        LightYearsAreOwed x = sixTold();
        for (int i = 5; i >= 0; i--) {
            x.cell(0, i, 21);
            CHECK.due("17: the first that is otherwise", x.tells(0, 4, 0), i);
            CHECK.due("17: another sheet", x.tells(3, 4, 0), NONE);
            CHECK.due("17: no text by which all were so", x.tells(0, 4, 1), 0);
            CHECK.due("17: no clouds", x.tells(0, 4, 2), 0);
        }
        x.film(0, 4);
        x.cell(0, 3, -20);
        CHECK.due("17: less than nothing is otherwise", x.tells(0, 4, 0), 3);
    }

    /** Light 1 alone is otherwise; whichever kind it were. */
    private static void tellsKinds() {
        int[] owed = {30 + 4, 60 + 7, 15 + 4 - 5, 60 + 7, 18 + 8 - 5, 3};
        int[] kinds = {1, 2 + 8, 4, 2 + 8, 16, 32};
        for (int i = 0; i < 6; i++) {
            LightYearsAreOwed x = new LightYearsAreOwed();
            x.force(Told.text(x, "dues 10;offs 0;extras 4;"));
            x.light(5, 0, 1);
            x.light(i == 0 ? 5 : 0, 5, 199);
            x.look(0, 1, 7);
            Told.row(x, 0, INTS, 0, owed[i]);
            CHECK.due("17: kinds by " + owed[i], x.tells(0, 0, 11), kinds[i]);
            x.cell(0, 0, 1);
            CHECK.due("17: none, the other is otherwise", x.tells(0, 0, 11), 0);
            CHECK.due("17: its kind stays", x.told(1, 6), i == 0 ? 5 : 0);
        }
    }

    private static void tellsNumbers() {
        LightYearsAreOwed x = by("10*number");
        x.light(0, 4, 1);
        x.look(0, 0, 1);
        for (int number = 0; number < 10; number++) {
            Told.row(x, 0, INTS, 10 * number);
            CHECK.due("17: number " + number, x.tells(0, 0, 20), 1 << number);
        }
        Told.row(x, 0, INTS, 100);
        CHECK.due("17: no number", x.tells(0, 0, 20), 0);
        CHECK.due("17: the number stays", x.told(0, 1), 4);
    }

    /** "YEARS (of 1 .. 999: how many, the least)": dues tell years, from 99 and 900 on anew from 0. */
    private static void tellsYears() {
        LightYearsAreOwed x = by("years-99*(98<years)-801*(899<years)");
        x.light(0, 4, 7);
        x.look(0, 0, 1);
        int[][] want = {{-1, 0, NONE}, {0, 2, 99}, {1, 3, 1}, {2, 3, 2}, {98, 3, 98},
            {99, 703, 198}, {100, 0, NONE}};
        for (int[] w : want) {
            Told.row(x, 0, INTS, w[0]);
            CHECK.due("17: how many years by " + w[0], x.tells(0, 0, 30), w[1]);
            CHECK.due("17: the least years by " + w[0], x.tells(0, 0, 40), w[2]);
        }
        CHECK.due("17: the years stay", x.told(0, 2), 7);
        Told.dues(x, "99*(years=999)+50*(years=1)");
        Told.row(x, 0, INTS, 99);
        CHECK.due("17: 999 years alone", x.tells(0, 0, 30), 1);
        CHECK.due("17: the least is 999", x.tells(0, 0, 40), 999);
        Told.row(x, 0, INTS, 50);
        CHECK.due("17: 1 year alone", x.tells(0, 0, 30), 1);
        CHECK.due("17: the least is 1", x.tells(0, 0, 40), 1);
        Told.row(x, 0, INTS, 0);
        CHECK.due("17: neither", x.tells(0, 0, 30), 997);
        CHECK.due("17: the least is 2", x.tells(0, 0, 40), 2);
    }

    /** "of no, or one NIGHT: bits 0 .. 11 by which one, 12 by none". */
    private static void tellsClouds() {
        for (int t = 0; t < 12; t++) {
            LightYearsAreOwed x = by("1");
            x.light(0, 0, 1);
            x.look(0, 0, 1 << t);
            Told.row(x, 0, INTS, 0);
            CHECK.due("17: a cloud in just that night", x.tells(0, 0, 2), 1 << t);
            Told.row(x, 0, INTS, 1);
            CHECK.due("17: in any other, or none", x.tells(0, 0, 2), 8191 - (1 << t));
            x.set(0, 0, 1 << t);
            CHECK.due("17: instead of those there are", x.tells(0, 0, 2), 8191 - (1 << t));
        }
        LightYearsAreOwed y = by("1+cloudy");
        y.light(0, 0, 1);
        y.look(0, 0, 1);
        y.set(0, 0, 4095);
        Told.row(y, 0, INTS, 1);
        CHECK.due("17: none", y.tells(0, 0, 2), 4096);
        Told.row(y, 0, INTS, 2);
        CHECK.due("17: any but night 0", y.tells(0, 0, 2), 4094);
        Told.row(y, 0, INTS, 0);
        CHECK.due("17: night 0", y.tells(0, 0, 2), 1);
        CHECK.due("17: clouds stay", y.told(0, 0), 4095);
    }

    private static void tellsTexts() {
        LightYearsAreOwed x = new LightYearsAreOwed();
        x.light(0, 0, 99);
        x.look(0, 0, 1);
        for (int i = 1; i < 6; i++) {
            Told.row(x, 0, INTS, i);
            CHECK.due("17: not yet by text " + i, x.tells(0, 0, 1), 0);
            Told.text(x, "dues " + i + ";offs 0;extras 0;");
            CHECK.due("17: by text " + i, x.tells(0, 0, 1), 1 << i);
        }
        Told.row(x, 0, INTS, 99);
        CHECK.due("17: by text 0", x.tells(0, 0, 1), 1);
        x.force(5);
        CHECK.due("17: by text 0, 5 being the rule", x.tells(0, 0, 1), 1);
        CHECK.due("17: 5 stays the rule", x.force(5), 5);
    }

    private static void filmBounds() {
        EDGE.bounds("18: sheet", v -> sixTold().film(v, 4), 0, 6, 3, 6, BAD);
        EDGE.bounds("18: looker", v -> sixTold().film(0, v), 0, 6, 4, 6, BAD);
        for (int n = 0; n <= 6; n++) {
            LightYearsAreOwed x = new LightYearsAreOwed();
            for (int i = 0; i < n; i++) {
                x.light(0, 0, 1);
            }
            CHECK.due("18: of " + n, x.film(2, 0), n);
            CHECK.due("18: its last item", x.cell(2, n - 1, 0), n == 0 ? -12 : 1);
            CHECK.due("18: behind its last", x.cell(2, n, 0), -12);
        }
    }

    /** "truly becomes .. (ints)": whatever it was, with room for the most that is owed. */
    private static void filmOfAll() {
        LightYearsAreOwed x = by("99");
        x.light(1, 0, 1);
        x.look(0, 0, 4095);
        x.light(0, 0, 1);
        for (int sort = -1; sort < 3; sort++) {
            x.sheet(1, sort, 40);
            CHECK.due("18: over sort " + sort, x.film(1, 0), 2);
            CHECK.due("18: it tells it", x.tells(1, 0, 0), NONE);
            CHECK.due("18: ints", x.lights(1, INTS, 0, 0), 0);
            Told.row(x, 0, INTS, 12 * 198 + 12, 0);
            CHECK.due("18: a twin's twelve nights, and nothing", x.tells(0, 0, 0), NONE);
        }
        CHECK.due("18: no clouds, no looks by it", x.look(0, 0, 0), 4095);
    }

    private static void drawnOfNothing() {
        LightYearsAreOwed x = new LightYearsAreOwed();
        for (int i = 0; i <= 6; i++) {
            for (int seed : FAR) {
                CHECK.due("19: " + i + " lights that nobody looked at", x.drawn(seed), 0);
            }
            x.light(5, 0, 1);
        }
    }

    /** The clouds of a seed by the document's words, in ints, with a quotient of a long. */
    private static int cloudsBy(int seed) {
        int z = seed;
        int clouds = 0;
        for (int t = 0; t < 12; t++) {
            z = (int) (z * 1103515245L + 12345L);
            long shifted = (z & 0xffffffffL) / 512;
            clouds |= shifted - shifted / 3 * 3 == 0 ? 1 << t : 0;
        }
        return clouds;
    }

    /** "an int": the seeds at both ends of all ints, and those by which z is below 0 at times. */
    private static void drawnByAnySeed() {
        int[] seeds = {Integer.MIN_VALUE, Integer.MIN_VALUE + 1, -2, -1, 0, 1, 2,
            Integer.MAX_VALUE - 1, Integer.MAX_VALUE, 1 << 30, -(1 << 30), 0x55555555};
        for (int seed : seeds) {
            for (int t = 0; t < 12; t++) {
                LightYearsAreOwed x = by("7");
                x.light(0, 0, 1);
                x.look(t % 5, 0, 1 << t);
                int want = (cloudsBy(seed) >> t & 1) == 0 ? 7 : 0;
                CHECK.due("19: night " + t + " by seed " + seed, x.drawn(seed), want);
            }
        }
        // By the seed 1, z is 1103527590, then -1770082073, then 662824084 (worked out by hand).
        CHECK.due("19: by seed 1 no cloud in nights 0, 1, one in 2", cloudsBy(1) & 7, 4);
    }

    private static void drawnInsteadOfClouds() {
        LightYearsAreOwed x = by("1+cloudy");
        x.light(0, 0, 1);
        x.look(0, 0, 1);
        x.look(3, 0, 2);
        int want = 2 * (1 + Integer.bitCount(cloudsBy(1)));
        int[] clouds = {0, 1, 2, 4095};
        for (int c : clouds) {
            x.set(0, 0, c);
            CHECK.due("19: whatever clouds there are", x.drawn(1), want);
            CHECK.due("20: whatever clouds there are", x.chance(1, 1, want, 0), 1);
            CHECK.due("20: nor one more", x.chance(1, 1, want + 1, 0), 0);
            CHECK.due("19: they stay", x.told(0, 0), c);
        }
        x.set(0, 0, 4094);
        x.set(5, 0, 20);
        x.pay(0);
        CHECK.due("19: less what is paid, 0 at least", x.drawn(1), want / 2);
    }

    private static void chanceBounds() {
        EDGE.bounds("20: m", v -> sixTold().chance(5, v, 0, 1), 1, 1, 20, 1, NO);
        EDGE.bounds("20: k", v -> sixTold().chance(5, 1, v, 0), 0, 1, 99999, 0, NO);
        EDGE.bounds("20: part", v -> sixTold().chance(5, 7, 99999, v), 0, 0, 1, 1, NO);
        for (int seed : FAR) {
            CHECK.due("20: any seed", sixTold().chance(seed, 20, 0, 0), 1);
        }
        CHECK.due("20: all are BAD", sixTold().chance(0, 0, -1, 2), NO);
    }

    /** By which it is k or more: just as much is enough. */
    private static void chanceByJustAsMuch() {
        LightYearsAreOwed x = by("1+night");
        x.light(0, 0, 1);
        x.look(0, 0, 4095);
        for (int seed = -3; seed < 4; seed++) {
            int all = x.drawn(seed);
            CHECK.due("20: just as much", x.chance(seed, 1, all, 0), 1);
            CHECK.due("20: one less", x.chance(seed, 1, all - 1, 0), 1);
            CHECK.due("20: one more", x.chance(seed, 1, all + 1, 0), 0);
            CHECK.due("20: below the line, none", x.chance(seed, 1, all + 1, 1), 1);
        }
    }

    private static int greatestOfBoth(int a, int b) {
        return b == 0 ? a : greatestOfBoth(b, a % b);
    }

    private static void chanceInLowestTerms() {
        LightYearsAreOwed x = by("1");
        x.light(0, 0, 1);
        x.look(0, 0, 1);
        for (int seed = 0; seed < 200; seed += 20) {
            LightYearsAreOwed y = by("1");
            y.light(0, 0, 1);
            y.look(0, 0, 1);
            int those = 0;
            for (int m = 1; m <= 20; m++) {
                those += 1 - (cloudsBy(seed + m - 1) & 1);
                int common = greatestOfBoth(those, m);
                String name = "20: from " + seed + ", " + those + " of " + m;
                CHECK.due(name + ", above", y.chance(seed, m, 1, 0), those / common);
                CHECK.due(name + ", below", y.chance(seed, m, 1, 1), m / common);
            }
        }
        CHECK.due("20: none of 20", x.chance(0, 20, 2, 0), 0);
        CHECK.due("20: none of 20 is 0 of 1", x.chance(0, 20, 2, 1), 1);
        CHECK.due("20: all of 20", x.chance(0, 20, 0, 0), 1);
        CHECK.due("20: all of 20 is 1 of 1", x.chance(0, 20, 0, 1), 1);
    }

    /** "each 1 more (an int)": behind the most int comes the least. */
    private static void chanceOfSeedsThatWrap() {
        for (int t = 0; t < 12; t++) {
            LightYearsAreOwed x = by("1");
            x.light(0, 0, 1);
            x.look(0, 0, 1 << t);
            int those = x.drawn(Integer.MAX_VALUE) + x.drawn(Integer.MIN_VALUE)
                    + x.drawn(Integer.MIN_VALUE + 1);
            CHECK.due("20: three around the end, above", x.chance(Integer.MAX_VALUE, 3, 1, 0),
                    those == 3 ? 1 : those);
            CHECK.due("20: three around the end, below", x.chance(Integer.MAX_VALUE, 3, 1, 1),
                    those == 3 || those == 0 ? 1 : 3);
            CHECK.due("20: from the last seed alone", x.chance(Integer.MAX_VALUE, 1, 1, 0),
                    x.drawn(Integer.MAX_VALUE));
            CHECK.due("20: around 0", x.chance(-1, 2, 1, 0) * 2 / x.chance(-1, 2, 1, 1),
                    x.drawn(-1) + x.drawn(0));
        }
    }

    private static void noImage() {
        LightYearsAreOwed x = sixTold();
        CHECK.due("22: there is none", x.back(), STATE);
        CHECK.due("22: nor again", x.back(), STATE);
        CHECK.due("22: six lights stay", x.count(0), 6);
        CHECK.due("21: an image", x.image(), 6);
        CHECK.due("22: there is one", x.back(), 6);
        CHECK.due("22: there still is", x.back(), 6);
    }

    private static void imageOfNoLights() {
        LightYearsAreOwed x = new LightYearsAreOwed();
        CHECK.due("21: of none", x.image(), 0);
        CHECK.due("22: none", x.back(), 0);
        x.light(0, 0, 1);
        CHECK.due("22: it goes", x.back(), 0);
        CHECK.due("22: it is gone", x.told(0, 1), BAD);
    }

    /** Each thing that an image keeps, changed alone, and changed back. */
    private static void imageOfAll() {
        int[][] set = {{0, 0, 9}, {1, 5, 9}, {2, 5, 9}, {3, 4, 9}, {4, 3, 9}, {5, 3, 9},
            {1, 0, 9}, {2, 0, 9}, {3, 0, 9}, {4, 0, 9}, {5, 0, 9}};
        for (int[] s : set) {
            LightYearsAreOwed x = sixTold();
            int was = x.told(s[1], s[0]);
            x.image();
            CHECK.due("21: an image changes nothing", x.told(s[1], s[0]), was);
            x.set(s[0], s[1], s[2]);
            CHECK.due("22: changed", x.told(s[1], s[0]), 9);
            x.back();
            CHECK.due("22: as it was, what " + s[0] + " of " + s[1], x.told(s[1], s[0]), was);
        }
        for (int one = 0; one < 5; one++) {
            for (int i = 0; i < 6; i++) {
                LightYearsAreOwed x = sixTold();
                x.image();
                x.look(one, i, 4095);
                x.back();
                CHECK.due("22: as " + one + " looked at " + i, x.look(one, i, 0), one == 4 ? 3 : 0);
            }
        }
        LightYearsAreOwed x = sixTold();
        x.set(5, 3, 4);
        x.set(5, 2, 4);
        x.image();
        CHECK.due("12: pays 120", x.pay(4), 4);
        x.force(0);
        x.back();
        CHECK.due("22: not paid", x.told(4, 7), 0);
        CHECK.due("22: due again", x.told(4, 8), 120);
        CHECK.due("22: the rule", x.count(5), 1);
        CHECK.due("22: pieces", x.count(2), 8);
    }

    private static void imageAnew() {
        LightYearsAreOwed x = new LightYearsAreOwed();
        for (int n = 0; n <= 6; n++) {
            CHECK.due("21: an image of " + n, x.image(), n);
            x.set(0, 0, 4095 - n);
            CHECK.due("22: back to " + n, x.back(), n);
            CHECK.due("22: with its clouds", x.told(0, 0), n == 0 ? 0 : n - 1);
            x.set(0, 0, n);
            x.light(0, 0, 1);
        }
        CHECK.due("22: the last image", x.back(), 6);
    }

    /** "LIGHTS that came since go", and others can come. */
    private static void backMakesRoom() {
        LightYearsAreOwed x = new LightYearsAreOwed();
        x.light(1, 2, 3);
        x.image();
        for (int round = 0; round < 3; round++) {
            for (int i = 1; i < 6; i++) {
                CHECK.due("22: room for " + i, x.light(5, 5, 5), i);
            }
            CHECK.due("22: full", x.light(5, 5, 5), -4);
            CHECK.due("22: back", x.back(), 1);
            CHECK.due("22: one is left", x.count(0), 1);
            CHECK.due("22: as it was", x.told(0, 2), 3);
            CHECK.due("22: the next is gone", x.told(1, 6), BAD);
            CHECK.due("22: nobody can look at it", x.look(0, 1, 1), BAD);
        }
    }

    /** Texts, the tape and sheets are none of what an image keeps. */
    private static void backLeavesTheOthers() {
        LightYearsAreOwed x = sixTold();
        x.image();
        Told.text(x, "dues 9;offs 0;extras 0;");
        Told.feed(x, "dues 8");
        x.cell(0, 0, 5);
        x.sheet(1, 0, 7);
        x.sheet(3, -1, 0);
        x.force(2);
        x.back();
        CHECK.due("22: the text that came stays", x.count(3), 3);
        CHECK.due("22: the tape stays", x.count(4), 6);
        CHECK.due("22: the rule doesn't", x.count(5), 1);
        CHECK.due("22: the sheet's item stays", x.tells(0, 4, 0), 0);
        CHECK.due("22: the sheet that came stays", x.cell(1, 6, 1), 1);
        CHECK.due("22: the sheet that went doesn't come", x.cell(3, 0, 1), -11);
        CHECK.due("22: the tape goes on", Told.text(x, ";offs 0;extras 0;"), 3);
        CHECK.due("22: as one text", x.force(3), 1);
        CHECK.due("22: which tells 8", x.owes(0, 0, 10), 8);
    }

    private static void countBounds() {
        LightYearsAreOwed x = sixTold();
        EDGE.bounds("23: what", v -> x.count(v), 0, 6, 5, 1, BAD);
    }

    private static void countLeastAndMost() {
        LightYearsAreOwed x = new LightYearsAreOwed();
        int[] least = {0, 0, 0, 1, 0, 0};
        for (int what = 0; what < 6; what++) {
            CHECK.due("23: at first, " + what, x.count(what), least[what]);
        }
        for (int i = 0; i < 7; i++) {
            x.light(0, 0, 1);
            Told.text(x, "dues 1;offs 0;extras 0;");
        }
        x.sheet(0, 0, 3);
        x.lights(0, 0, 0, 1);
        x.set(0, 0, 4095);
        for (int sort = 0; sort < 4; sort++) {
            x.set(5, sort, 20);
        }
        x.force(5);
        Told.feed(x, " ".repeat(170));
        int[] most = {6, 12, 80, 6, 160, 5};
        for (int what = 0; what < 6; what++) {
            CHECK.due("23: the most, " + what, x.count(what), most[what]);
        }
    }
}
