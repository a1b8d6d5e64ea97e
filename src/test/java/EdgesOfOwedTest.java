/** Promises 9 to 12 at their edges: what is owed, what can be paid, what is paid. */
public final class EdgesOfOwedTest {
    private static final Check CHECK = new Check("EdgesOfOwedTest");
    private static final Edge EDGE = new Edge(CHECK);
    private static final int NONE = -1, BAD = -2, STATE = -3;
    private static final int TWIN = 1, RED = 2, COMET = 3, GIANT = 4, LAMP = 5;

    public static void main(String[] args) {
        owesBounds();
        noNight();
        nightsUnderClouds();
        twoNightsAndThree();
        cometByItsNumber();
        halfIsCut();
        aHundredYears();
        offByNumber();
        owesNoLessThanNothing();
        theMostOfAll();
        dueLookedOrNot();
        allLessPaid();
        allWhat();
        whoOwesMost();
        whatCanBePaid();
        piecesBounds();
        noPieces();
        asManyAsThereAre();
        nearestBelow();
        fewestOfEachSort();
        payBounds();
        payNothing();
        payNineHundredNinetyNine();
        payCannot();
        payTheLastPieces();
        payOfLikeWays();
        payOnceMore();
        CHECK.end();
    }

    /** What looker 0 owes for one light in the first k nights. */
    private static int owed(LightYearsAreOwed x, int kind, int number, int years, int k) {
        int light = x.light(kind, number, years);
        x.look(0, light, (1 << k) - 1);
        return x.owes(0, light, 0);
    }

    /** Six lamps; each looker looked at each in one night more than its own number. */
    private static LightYearsAreOwed lamps() {
        LightYearsAreOwed x = new LightYearsAreOwed();
        for (int i = 0; i < 6; i++) {
            x.light(LAMP, 0, 1);
            for (int one = 0; one < 5; one++) {
                x.look(one, i, (2 << one) - 1);
            }
        }
        return x;
    }

    private static void owesBounds() {
        LightYearsAreOwed x = lamps();
        EDGE.bounds("9: looker", v -> x.owes(v, 5, 0), 0, 1, 4, 5, BAD);
        EDGE.bounds("9: light", v -> x.owes(2, v, 0), 0, 3, 5, 3, BAD);
        EDGE.bounds("9: what, of all and how many", v -> x.owes(2, 5, v), 0, 3, 1, 3, BAD);
        EDGE.bounds("9: what, of a night", v -> x.owes(2, 5, v), 10, 1, 21, 1, BAD);
        for (int n = 1; n < 6; n++) {
            LightYearsAreOwed y = Told.by("7", "0", "0");
            for (int i = 0; i < n; i++) {
                y.light(0, 0, 1);
            }
            CHECK.due("9: the last of " + n, y.owes(0, n - 1, 10), 7);
            CHECK.due("9: behind the last of " + n, y.owes(0, n, 10), BAD);
        }
    }

    /** "no NIGHT: 0", whatever is extra. */
    private static void noNight() {
        for (int kind = 0; kind < 6; kind++) {
            LightYearsAreOwed x = Told.by("99", "0", "99");
            CHECK.due("9: no night, kind " + kind, owed(x, kind, 0, 999, 0), 0);
            CHECK.due("9: none counts", x.owes(0, 0, 1), 0);
            CHECK.due("9: one night is some", owed(x, kind, 9, 999, 1) > 0 ? 1 : 0, 1);
        }
    }

    /** "A NIGHT COUNTS, if it has no CLOUD": each of the twelve. */
    private static void nightsUnderClouds() {
        for (int t = 0; t < 12; t++) {
            LightYearsAreOwed x = Told.by("1+night", "0", "0");
            CHECK.due("9: no cloud", owed(x, 0, 0, 1, 12), 78);
            x.set(0, 0, 1 << t);
            CHECK.due("9: a cloud in night " + t, x.owes(0, 0, 0), 78 - t - 1);
            CHECK.due("9: eleven count", x.owes(0, 0, 1), 11);
            x.set(0, 0, 4095 - (1 << t));
            CHECK.due("9: clouds but in night " + t, x.owes(0, 0, 0), t + 1);
            x.set(0, 0, 4095);
            CHECK.due("9: clouds in all", x.owes(0, 0, 0), 0);
        }
    }

    /** "EXTRA, if these are more than 2". */
    private static void twoNightsAndThree() {
        int[] due = {10, 20, 5, 20, 7, 1};
        int[] extra = {6, 9, 6, 9, 12, 0};
        for (int kind = 0; kind < 6; kind++) {
            LightYearsAreOwed x = Told.by("10", "0", "6");
            int number = kind == COMET ? 9 : 0;
            CHECK.due("9: two nights, kind " + kind, owed(x, kind, number, 299, 2), 2 * due[kind]);
            CHECK.due("9: three nights, kind " + kind, owed(x, kind, number, 299, 3),
                    3 * due[kind] + extra[kind]);
            x.set(0, 0, 4);
            CHECK.due("9: three, one under a cloud, kind " + kind, x.owes(0, 1, 0), 2 * due[kind]);
        }
        LightYearsAreOwed y = Told.by("0", "0", "99");
        CHECK.due("9: a twin's extra in 12 nights", owed(y, TWIN, 0, 1, 12), 99 + 12);
        CHECK.due("9: a comet's extra in 12 nights", owed(y, COMET, 0, 1, 12), 99 + 12);
        CHECK.due("9: a giant's extra in 12 nights", owed(y, GIANT, 0, 1, 12), 198);
        CHECK.due("9: a lamp's is 0", owed(y, LAMP, 0, 1, 12), 12);
    }

    /** "0, if k is NUMBER or more, else as a TWIN". */
    private static void cometByItsNumber() {
        for (int number = 0; number < 10; number++) {
            LightYearsAreOwed x = Told.by("30", "0", "0");
            x.light(COMET, number, 1);
            for (int k = 0; k <= 12; k++) {
                x.look(3, 0, (1 << k) - 1);
                CHECK.due("9: a comet of number " + number + " in " + k, x.owes(3, 0, 10),
                        k >= number ? 0 : 60);
            }
            x.look(3, 0, 4095);
            x.set(0, 0, 4095 - 255);
            CHECK.due("9: clouds are none of the k", x.owes(3, 0, 10), number < 9 ? 0 : 60);
        }
    }

    private static void halfIsCut() {
        int[] dues = {0, 1, 2, 3, 97, 98, 99, 100};
        int[] half = {0, 0, 1, 1, 48, 49, 49, 49};
        for (int i = 0; i < dues.length; i++) {
            LightYearsAreOwed x = Told.by("" + dues[i], "0", "0");
            x.light(RED, 0, 1);
            x.light(GIANT, 0, 99);
            CHECK.due("9: a red's half of " + dues[i], x.owes(0, 0, 10), half[i]);
            CHECK.due("9: a giant's half of " + dues[i], x.owes(0, 1, 10), half[i]);
        }
    }

    private static void aHundredYears() {
        int[] years = {1, 99, 100, 101, 199, 200, 899, 900, 998, 999};
        int[] more = {0, 0, 1, 1, 1, 2, 8, 9, 9, 9};
        LightYearsAreOwed x = Told.by("20", "0", "0");
        x.light(GIANT, 0, 1);
        for (int i = 0; i < years.length; i++) {
            x.set(2, 0, years[i]);
            CHECK.due("9: a giant of " + years[i], x.owes(0, 0, 10), 10 + more[i]);
        }
    }

    /** Numbers 0 and 9: of reds and giants so much more is let off; of comets nothing. */
    private static void offByNumber() {
        int[][] off = {{40, 40}, {40, 40}, {40, 49}, {0, 0}, {40, 49}, {1, 1}};
        int[] due = {99, 198, 49, 198, 49, 1};
        for (int kind = 0; kind < 6; kind++) {
            for (int i = 0; i < 2; i++) {
                LightYearsAreOwed x = Told.by("99", "40", "0");
                int all = kind == COMET && i == 0 ? 0 : due[kind];
                CHECK.due("9: off of kind " + kind + ", number " + 9 * i,
                        owed(x, kind, 9 * i, 1, 1), all - (all == 0 ? 0 : off[kind][i]));
            }
        }
    }

    private static void owesNoLessThanNothing() {
        CHECK.due("9: one more than is let off", owed(Told.by("8", "7", "0"), 0, 0, 1, 1), 1);
        CHECK.due("9: as much as is let off", owed(Told.by("7", "7", "0"), 0, 0, 1, 1), 0);
        CHECK.due("9: one less than is let off", owed(Told.by("6", "7", "0"), 0, 0, 1, 1), 0);
        CHECK.due("9: far less", owed(Told.by("0", "99", "0"), RED, 9, 1, 1), 0);
        CHECK.due("9: extras are ahead of what is let off", owed(Told.by("1", "9", "8"), 0, 0, 1, 3), 2);
        LightYearsAreOwed x = Told.by("5*number", "7", "0");
        owed(x, 0, 0, 1, 1);
        owed(x, 0, 2, 1, 1);
        CHECK.due("10: what is let off too much for one is none for another", x.told(0, 8), 3);
    }

    /** The most that can be owed: twelve nights of twins of 99 and 99 and 12 more. */
    private static void theMostOfAll() {
        LightYearsAreOwed x = Told.by("9999", "-1", "9999");
        int most = 12 * 198 + 111;
        for (int i = 0; i < 6; i++) {
            x.light(TWIN, 9, 999);
            for (int one = 0; one < 5; one++) {
                x.look(one, i, 4095);
            }
            CHECK.due("9: a twin's most", x.owes(4, i, 0), most);
        }
        CHECK.due("10: one's most", x.told(4, 8), 6 * most);
        CHECK.due("10: all's most", x.all(0), 30 * most);
        CHECK.due("12: far above 999", x.pay(0), STATE);
        CHECK.due("14: leaving one of six", x.leave(0, 1), 5 * most);
        CHECK.due("15: a farm for all of it", x.farm(0, 6 * most), 11);
        CHECK.due("15: none for one more", x.farm(0, 6 * most + 1), NONE);
        CHECK.due("16: who owes all of it", x.walk(0, 6 * most, 2), 5);
        CHECK.due("16: who owes one more", x.walk(0, 6 * most + 1, 2), 0);
    }

    /** "DUE for NIGHT what less 10 (10 .. 21; did one LOOK or not)", under clouds, too. */
    private static void dueLookedOrNot() {
        LightYearsAreOwed x = Told.by("1+night", "0", "0");
        x.light(0, 0, 1);
        x.light(COMET, 2, 1);
        x.look(0, 0, 1);
        x.look(0, 1, 1);
        x.set(0, 0, 2048 + 4);
        for (int t = 0; t < 12; t++) {
            CHECK.due("9: due for night " + t, x.owes(0, 0, 10 + t), 1 + t);
            CHECK.due("9: a comet's, its nights as they are", x.owes(0, 1, 10 + t), 2 + 2 * t);
        }
    }

    private static void allLessPaid() {
        LightYearsAreOwed x = Told.by("10", "0", "0");
        x.light(0, 0, 1);
        x.look(2, 0, 7);
        x.set(5, 2, 20);
        CHECK.due("10: all", x.told(2, 8), 30);
        CHECK.due("12: pays", x.pay(2), 3);
        CHECK.due("10: nothing any more", x.told(2, 8), 0);
        x.look(2, 0, 3);
        CHECK.due("10: paid more than is owed: 0 at least", x.told(2, 8), 0);
        CHECK.due("10: together, too", x.all(0), 0);
        x.look(2, 0, 7);
        CHECK.due("10: just what is paid", x.told(2, 8), 0);
        x.look(2, 0, 15);
        CHECK.due("10: less what is paid", x.told(2, 8), 10);
        x.look(3, 0, 1);
        CHECK.due("10: what one paid is none of another's", x.all(0), 10 + 10);
        x.look(2, 0, 0);
        CHECK.due("10: what one paid too much neither", x.all(0), 10);
    }

    private static void allWhat() {
        EDGE.bounds("10: what", v -> lamps().all(v), 0, 6 * (1 + 2 + 3 + 4 + 5), 2, 0, BAD);
        CHECK.due("10: who", lamps().all(1), 4);
    }

    private static void whoOwesMost() {
        for (int one = 0; one < 5; one++) {
            LightYearsAreOwed x = Told.by("10", "0", "0");
            x.light(0, 0, 1);
            CHECK.due("10: none owes: the first", x.all(1), 0);
            for (int other = one; other < 5; other++) {
                x.look(other, 0, 1);
            }
            CHECK.due("10: of like ones the first, " + one, x.all(1), one);
            x.look(4, 0, 3);
            CHECK.due("10: the last by one night more", x.all(1), 4);
        }
    }

    /** Sets all four sorts: how bright, how many. */
    private static LightYearsAreOwed purse(LightYearsAreOwed x, int[] bright, int[] many) {
        for (int i = 0; i < 4; i++) {
            x.set(4, i, bright[i]);
            x.set(5, i, many[i]);
        }
        return x;
    }

    private static LightYearsAreOwed purse(int[] bright, int[] many) {
        return purse(new LightYearsAreOwed(), bright, many);
    }

    private static void whatCanBePaid() {
        int[] most = {99, 99, 99, 99};
        int[] ones = {1, 1, 1, 1};
        int[] twenty = {20, 20, 20, 20};
        CHECK.due("10: nothing", purse(most, new int[4]).all(2), 0);
        CHECK.due("10: the most", purse(most, twenty).all(2), 4 * 99 * 20);
        CHECK.due("10: of ones", purse(ones, twenty).all(2), 80);
        for (int i = 0; i < 4; i++) {
            int[] many = new int[4];
            many[i] = 1;
            CHECK.due("10: one of sort " + i, purse(new int[] {2, 3, 5, 7}, many).all(2),
                    new int[] {2, 3, 5, 7}[i]);
        }
    }

    private static void piecesBounds() {
        int[] bright = {99, 99, 99, 9};
        int[] many = {0, 0, 10, 20};
        EDGE.bounds("11: x", v -> purse(bright, many).pieces(v, 0), 0, 1, 999, 1, BAD);
        EDGE.bounds("11: x, fewest", v -> purse(bright, many).pieces(v, 1), 0, 0, 999, 11, BAD);
        EDGE.bounds("11: x, nearest", v -> purse(bright, many).pieces(v, 2), 0, 0, 999, 999, BAD);
        EDGE.bounds("11: what", v -> purse(bright, many).pieces(998, v), 0, 0, 2, 990, BAD);
        CHECK.due("11: both are BAD", purse(bright, many).pieces(1000, 3), BAD);
    }

    private static void pieces(String name, LightYearsAreOwed x, int sum, int fewest, int nearest) {
        CHECK.due("11: " + name + ", can " + sum, x.pieces(sum, 0), fewest == NONE ? 0 : 1);
        CHECK.due("11: " + name + ", fewest " + sum, x.pieces(sum, 1), fewest);
        CHECK.due("11: " + name + ", nearest " + sum, x.pieces(sum, 2), nearest);
    }

    private static void noPieces() {
        LightYearsAreOwed x = new LightYearsAreOwed();
        int[] sums = {0, 1, 5, 10, 50, 999};
        for (int sum : sums) {
            pieces("none there", x, sum, sum == 0 ? 0 : NONE, 0);
        }
    }

    /** "by PIECES as many as there are". */
    private static void asManyAsThereAre() {
        for (int sort = 0; sort < 4; sort++) {
            int[] bright = {7, 7, 7, 7};
            int[] many = new int[4];
            many[sort] = 20;
            LightYearsAreOwed x = purse(bright, many);
            pieces("twenty of sort " + sort, x, 140, 20, 140);
            pieces("not one more of sort " + sort, x, 147, NONE, 140);
            pieces("one short of sort " + sort, x, 139, NONE, 133);
            x.set(5, sort, 1);
            pieces("one of sort " + sort, x, 7, 1, 7);
            pieces("less than one of sort " + sort, x, 6, NONE, 0);
            pieces("no two of sort " + sort, x, 14, NONE, 7);
        }
        LightYearsAreOwed all = purse(new int[] {2, 3, 5, 7}, new int[] {1, 1, 1, 1});
        pieces("all of them", all, 17, 4, 17);
        pieces("one more than all", all, 18, NONE, 17);
        pieces("all but the least", all, 15, 3, 15);
        pieces("one less than all", all, 16, NONE, 15);
    }

    private static void nearestBelow() {
        LightYearsAreOwed x = purse(new int[] {99, 98, 97, 96}, new int[] {1, 1, 1, 1});
        pieces("below the least", x, 95, NONE, 0);
        pieces("the least", x, 96, 1, 96);
        pieces("between", x, 192, NONE, 99);
        pieces("two", x, 193, 2, 193);
        pieces("all", x, 390, 4, 390);
        pieces("above all", x, 999, NONE, 390);
    }

    /**
     * Fewest may leave out the brightest that would fit, of any sort. 999: the most that twenty
     * of each but the ones come to and that is less is 20 * 20 + 20 * 16 + 18 * 15, then 9 ones.
     */
    private static void fewestOfEachSort() {
        int[] twenty = {20, 20, 20, 20};
        int[][] orders = {{1, 15, 16, 20}, {20, 16, 15, 1}, {16, 1, 20, 15}, {15, 20, 1, 16}};
        for (int[] bright : orders) {
            LightYearsAreOwed x = purse(bright, twenty);
            pieces("two times 15", x, 30, 2, 30);
            pieces("two times 16", x, 32, 2, 32);
            pieces("15 + 16", x, 31, 2, 31);
            pieces("20 + 20", x, 40, 2, 40);
            pieces("19 is four ones and 15", x, 19, 4, 19);
            pieces("999", x, 999, 67, 999);
        }
    }

    private static void payBounds() {
        EDGE.bounds("12: looker", v -> purse(lamps(), new int[] {1, 1, 6, 6}, new int[] {0, 0, 5, 5})
                .pay(v), 0, 1, 4, 5, BAD);
        EDGE.refused("12: BAD ahead of STATE", v -> lamps().pay(v), BAD, -1, 5);
        CHECK.due("12: STATE", lamps().pay(0), STATE);
    }

    private static void payNothing() {
        LightYearsAreOwed x = lamps();
        x.set(0, 0, 4095);
        for (int one = 0; one < 5; one++) {
            CHECK.due("12: nothing due, no piece", x.pay(one), 0);
            CHECK.due("12: nothing paid", x.told(one, 7), 0);
        }
        x.set(5, 0, 20);
        CHECK.due("12: nothing due, pieces there", x.pay(0), 0);
        CHECK.due("12: all of them stay", x.count(2), 20);
    }

    /** Looker 1 owes 980 and 10 more for ten nights of a twin, and so much for another light. */
    private static LightYearsAreOwed owing(int more) {
        LightYearsAreOwed x = Told.by("years", "0", "0");
        x.light(TWIN, 0, 49);
        x.light(0, 0, more);
        x.look(1, 0, 1023);
        x.look(1, 1, 1);
        return x;
    }

    private static void payNineHundredNinetyNine() {
        int[] bright = {9, 99, 10, 20};
        int[] many = {1, 10, 1, 0};
        LightYearsAreOwed x = purse(owing(9), bright, many);
        CHECK.due("12: it is 999", x.told(1, 8), 999);
        CHECK.due("12: pays 999", x.pay(1), 11);
        CHECK.due("12: paid", x.told(1, 7), 999);
        CHECK.due("12: one piece is left", x.count(2), 1);
        LightYearsAreOwed y = purse(owing(10), bright, many);
        CHECK.due("12: it is 1000", y.told(1, 8), 1000);
        CHECK.due("12: above 999, though ten of 99 and one of 10 would do", y.pay(1), STATE);
        CHECK.due("12: nothing paid", y.told(1, 7), 0);
        CHECK.due("12: all pieces are left", y.count(2), 12);
        y.set(2, 1, 9);
        CHECK.due("12: 999 again", y.pay(1), 11);
        y.set(2, 1, 19);
        CHECK.due("12: 10 more, less what is paid", y.pay(1), 1);
        CHECK.due("12: paid 1009", y.told(1, 7), 1009);
    }

    private static void payCannot() {
        LightYearsAreOwed x = purse(owing(8), new int[] {9, 99, 10, 20}, new int[] {20, 10, 0, 0});
        CHECK.due("12: it is 998", x.told(1, 8), 998);
        CHECK.due("12: can't be by nines and 99", x.pay(1), STATE);
        CHECK.due("12: nothing paid", x.told(1, 7), 0);
        CHECK.due("12: of sort 0 all are left", x.told(0, 5), 20);
        CHECK.due("12: of sort 1 all are left", x.told(1, 5), 10);
        x.set(4, 0, 8);
        CHECK.due("12: can be", x.pay(1), 11);
    }

    private static void payTheLastPieces() {
        LightYearsAreOwed x = lamps();
        int[] all = {6, 12, 18, 24, 30};
        purse(x, new int[] {1, 1, 1, 1}, new int[] {20, 20, 20, 20});
        int left = 80;
        for (int one = 0; one < 4; one++) {
            CHECK.due("12: so many ones", x.pay(one), all[one]);
            left -= all[one];
            CHECK.due("12: so many left", x.count(2), left);
        }
        CHECK.due("12: sort 3, 2, 1 are gone first", x.told(3, 5) + x.told(2, 5) + x.told(1, 5), 0);
        CHECK.due("12: 20 are left, 30 are due", x.pay(4), STATE);
        CHECK.due("12: 20 stay", x.told(0, 5), 20);
        x.set(5, 3, 10);
        CHECK.due("12: all pieces", x.pay(4), 30);
        CHECK.due("12: none is left", x.count(2), 0);
        CHECK.due("12: nothing is due", x.pay(4), 0);
    }

    private static void left(String name, LightYearsAreOwed x, int pieces, int... left) {
        CHECK.due("12: " + name, x.pay(0), pieces);
        for (int i = 0; i < 4; i++) {
            CHECK.due("12: " + name + ", left of sort " + i, x.told(i, 5), left[i]);
        }
    }

    /** "that with most of sort 3, then of sort 2, then of sort 1". */
    private static void payOfLikeWays() {
        int[] three = {3, 3, 3, 3};
        left("2 + 6 or 4 + 4: most of sort 3", purse(owe(8), new int[] {4, 4, 6, 2}, three),
                2, 3, 3, 2, 2);
        left("none of sort 3 fits: most of sort 2", purse(owe(8), new int[] {2, 6, 4, 9}, three),
                2, 3, 3, 1, 3);
        left("2 + 6 of sorts 1, 0 or 4 + 4 of 0: most of sort 1",
                purse(owe(8), new int[] {4, 4, 9, 9}, three), 2, 3, 1, 3, 3);
        left("fewer pieces are ahead of sort 3", purse(owe(8), new int[] {8, 9, 9, 4}, three),
                1, 2, 3, 3, 3);
        left("like all over", purse(owe(8), new int[] {2, 2, 2, 2}, new int[] {20, 1, 1, 1}),
                4, 19, 0, 0, 0);
        left("two of sort 3 ahead of one of it", purse(owe(9), new int[] {2, 3, 4, 3}, three),
                3, 3, 3, 3, 0);
        left("one of sort 3, then most of sort 2",
                purse(owe(9), new int[] {2, 1, 5, 3}, new int[] {3, 3, 3, 1}), 3, 3, 2, 2, 0);
    }

    /** Looker 0 owes so much for one light in one night. */
    private static LightYearsAreOwed owe(int sum) {
        LightYearsAreOwed x = new LightYearsAreOwed();
        x.light(0, 0, sum);
        x.look(0, 0, 1);
        return x;
    }

    private static void payOnceMore() {
        LightYearsAreOwed x = owe(90);
        int paid = 0;
        for (int night = 0; night < 12; night++) {
            x.look(0, 0, 1 << night);
            x.set(2, 0, 8 * night + 9);
            int due = Math.max(8 * night + 9 - paid, 0);
            x.set(5, 0, 20);
            CHECK.due("12: the difference alone, " + night, x.pay(0), due);
            paid += due;
            CHECK.due("12: paid in all, " + night, x.told(0, 7), paid);
        }
    }
}
