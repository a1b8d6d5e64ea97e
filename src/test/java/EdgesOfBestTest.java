/** Promises 13 to 16 at their edges: cheapest, leave, farm, walk. */
public final class EdgesOfBestTest {
    private static final Check CHECK = new Check("EdgesOfBestTest");
    private static final Edge EDGE = new Edge(CHECK);
    private static final int NONE = -1, BAD = -2;

    public static void main(String[] args) {
        cheapestBounds();
        cheapestNoNightLeft();
        cheapestOneNightLeft();
        cheapestOfLikeOnesTheFirst();
        cheapestOfNothing();
        cheapestCountsTheNightToo();
        cheapestWithoutPaid();
        leaveBounds();
        leaveNoLight();
        leaveIfLess();
        leaveOfLikeOnesTheFirst();
        leaveTheLastLight();
        leaveWithoutPaid();
        farmBounds();
        farmFirstAndLastNight();
        farmJustAsMuch();
        farmUpToIt();
        farmComesToLessLater();
        farmWithoutPaid();
        walkBounds();
        walkToNone();
        walkByJustAsMuch();
        walkFromEveryMile();
        walkToOneEnd();
        walkOfLikeEnds();
        walkToTheFirstAtThatMile();
        walkByAllLessPaid();
        CHECK.end();
    }

    /** Six lights; night t comes to t + 1. */
    private static LightYearsAreOwed sixLights() {
        LightYearsAreOwed x = Told.by("night+1", "0", "0");
        for (int i = 0; i < 6; i++) {
            x.light(0, 0, 1);
        }
        return x;
    }

    private static void cheapestBounds() {
        LightYearsAreOwed x = sixLights();
        x.look(0, 0, 1);
        x.look(4, 5, 3);
        EDGE.bounds("13: looker", v -> x.cheapest(v, 5, 0), 0, 0, 4, 2, BAD);
        EDGE.bounds("13: light", v -> x.cheapest(4, v, 0), 0, 0, 5, 2, BAD);
        EDGE.bounds("13: what", v -> x.cheapest(4, 5, v), 0, 2, 1, 6, BAD);
        LightYearsAreOwed y = new LightYearsAreOwed();
        for (int n = 0; n < 6; n++) {
            CHECK.due("13: behind the last of " + n, y.cheapest(0, n, 0), BAD);
            y.light(0, 0, 1);
            CHECK.due("13: the last of " + (n + 1), y.cheapest(0, n, 0), 0);
        }
    }

    private static void cheapestNone(String name, int clouds, int nights) {
        LightYearsAreOwed x = sixLights();
        x.set(0, 0, clouds);
        x.look(0, 0, nights);
        CHECK.due("13: " + name + ", no night", x.cheapest(0, 0, 0), NONE);
        CHECK.due("13: " + name + ", nothing then", x.cheapest(0, 0, 1), NONE);
    }

    private static void cheapestNoNightLeft() {
        cheapestNone("looked in all", 0, 4095);
        cheapestNone("clouds in all", 4095, 0);
        cheapestNone("looked or clouds in each", 0xf0f, 0x0f0);
        cheapestNone("looked and clouds in each", 0xff0, 0x0ff);
        cheapestNone("both in all", 4095, 4095);
    }

    private static void cheapestOneNightLeft() {
        for (int t = 0; t < 12; t++) {
            LightYearsAreOwed x = sixLights();
            x.look(0, 0, 4095 - (1 << t));
            CHECK.due("13: not looked in " + t, x.cheapest(0, 0, 0), t);
            CHECK.due("13: all nights then", x.cheapest(0, 0, 1), 78);
            x.look(0, 0, 0);
            x.set(0, 0, 4095 - (1 << t));
            CHECK.due("13: no cloud in " + t, x.cheapest(0, 0, 0), t);
            CHECK.due("13: that night alone then", x.cheapest(0, 0, 1), t + 1);
        }
    }

    private static void cheapestOfLikeOnesTheFirst() {
        LightYearsAreOwed x = Told.by("50-20*(night=3)-20*(night=11)", "0", "0");
        x.light(0, 0, 1);
        CHECK.due("13: of 3 and 11", x.cheapest(0, 0, 0), 3);
        x.set(0, 0, 8);
        CHECK.due("13: 11, 3 under a cloud", x.cheapest(0, 0, 0), 11);
        x.set(0, 0, 2048 + 8 + 1);
        CHECK.due("13: of the others the first", x.cheapest(0, 0, 0), 1);
        CHECK.due("13: as it would be", x.cheapest(0, 0, 1), 50);
    }

    /** The least there is, 0, is none of NONE. */
    private static void cheapestOfNothing() {
        LightYearsAreOwed x = Told.by("0", "0", "0");
        x.light(0, 0, 1);
        CHECK.due("13: nothing by any night", x.cheapest(0, 0, 0), 0);
        CHECK.due("13: nothing then", x.cheapest(0, 0, 1), 0);
        LightYearsAreOwed y = Told.by("5*(night<11)", "0", "0");
        y.light(0, 0, 1);
        CHECK.due("13: nothing by the last night", y.cheapest(0, 0, 0), 11);
        CHECK.due("13: nothing then, too", y.cheapest(0, 0, 1), 0);
    }

    /** The third night brings extras, a comet's last one takes all that is due. */
    private static void cheapestCountsTheNightToo() {
        LightYearsAreOwed x = Told.by("10", "0", "7");
        x.light(0, 0, 1);
        x.light(3, 3, 1);
        x.look(0, 0, 3);
        CHECK.due("13: three nights and what is extra", x.cheapest(0, 0, 1), 37);
        x.look(0, 1, 3);
        CHECK.due("13: a comet in three", x.cheapest(0, 1, 1), 20 + 7 + 3);
        x.look(0, 1, 1);
        CHECK.due("13: a comet in two", x.cheapest(0, 1, 1), 20 + 40);
        CHECK.due("13: no night was looked in", x.owes(0, 0, 1), 2);
        CHECK.due("13: of the comet, either", x.look(0, 1, 1), 1);
    }

    private static void cheapestWithoutPaid() {
        LightYearsAreOwed x = Told.by("10", "0", "0");
        x.light(0, 0, 1);
        x.look(0, 0, 1);
        x.set(5, 2, 1);
        x.pay(0);
        CHECK.due("13: all would be 10", x.cheapest(0, 0, 1), 20);
        CHECK.due("13: it is 0 now", x.told(0, 8), 0);
    }

    private static void leaveBounds() {
        LightYearsAreOwed x = sixLights();
        x.look(0, 0, 1);
        x.look(0, 1, 1);
        x.look(4, 5, 3);
        EDGE.bounds("14: looker", v -> x.leave(v, 0), 0, 0, 4, 5, BAD);
        EDGE.bounds("14: what", v -> x.leave(0, v), 0, 0, 1, 1, BAD);
    }

    private static void leaveNoLight() {
        LightYearsAreOwed x = new LightYearsAreOwed();
        CHECK.due("14: no light there", x.leave(0, 0), NONE);
        CHECK.due("14: as now", x.leave(0, 1), 0);
        LightYearsAreOwed y = sixLights();
        CHECK.due("14: none looked at", y.leave(0, 0), NONE);
        CHECK.due("14: as now, nothing", y.leave(0, 1), 0);
        y.look(0, 2, 4095);
        y.look(1, 3, 1);
        y.set(0, 0, 4095);
        CHECK.due("14: all under clouds", y.leave(0, 0), NONE);
        y.set(0, 0, 0);
        CHECK.due("14: without clouds", y.leave(0, 0), 2);
    }

    /** "if less than now": as much as now is none, and a light can even make all the others less. */
    private static void leaveIfLess() {
        LightYearsAreOwed x = Told.by("10", "10*lights", "0");
        x.light(0, 0, 1);
        x.light(0, 0, 1);
        x.look(0, 0, 1);
        x.look(0, 1, 1);
        CHECK.due("14: nothing now, nothing then", x.leave(0, 0), NONE);
        CHECK.due("14: as now, nothing", x.leave(0, 1), 0);
        LightYearsAreOwed y = Told.by("20", "10*(lights-1)", "0");
        y.light(0, 0, 1);
        y.light(0, 0, 1);
        y.look(0, 0, 1);
        y.look(0, 1, 1);
        CHECK.due("14: 10 and 10 now, 20 by one alone", y.leave(0, 0), NONE);
        CHECK.due("14: as now, 20", y.leave(0, 1), 20);
        y.look(0, 1, 3);
        CHECK.due("14: 10 and 30 now, 20 then", y.leave(0, 0), 1);
        CHECK.due("14: 20 then", y.leave(0, 1), 20);
        y.look(0, 0, 0);
        y.look(0, 1, 0);
        LightYearsAreOwed z = Told.by("20", "19*(lights-1)", "0");
        z.light(0, 0, 1);
        z.light(0, 0, 1);
        z.look(0, 0, 1);
        z.look(0, 1, 1);
        CHECK.due("14: 1 and 1 now, 20 then", z.leave(0, 0), NONE);
        CHECK.due("14: as now, 2", z.leave(0, 1), 2);
    }

    private static void leaveOfLikeOnesTheFirst() {
        for (int first = 0; first < 6; first++) {
            LightYearsAreOwed x = sixLights();
            for (int i = first; i < 6; i++) {
                x.look(0, i, 1 << 4);
            }
            CHECK.due("14: of like ones the first, " + first, x.leave(0, 0), first);
            CHECK.due("14: all but one then", x.leave(0, 1), 5 * (5 - first));
        }
    }

    private static void leaveTheLastLight() {
        LightYearsAreOwed x = sixLights();
        for (int i = 0; i < 6; i++) {
            x.look(0, i, 1 << i);
        }
        CHECK.due("14: the dearest is the last", x.leave(0, 0), 5);
        CHECK.due("14: 1 + 2 + 3 + 4 + 5 then", x.leave(0, 1), 15);
        CHECK.due("14: it was looked at all the same", x.look(0, 5, 32), 32);
        CHECK.due("14: and the first, too", x.look(0, 0, 1), 1);
    }

    private static void leaveWithoutPaid() {
        LightYearsAreOwed x = Told.by("10", "0", "0");
        x.light(0, 0, 1);
        x.light(5, 0, 1);
        x.look(0, 0, 1);
        x.look(0, 1, 1);
        x.set(5, 0, 1);
        x.set(5, 2, 1);
        x.pay(0);
        CHECK.due("14: nothing is due, one is left all the same", x.leave(0, 0), 0);
        CHECK.due("14: without what is paid", x.leave(0, 1), 1);
        x.look(0, 0, 0);
        x.look(0, 1, 0);
        CHECK.due("14: as now, without what is paid", x.leave(0, 1), 0);
    }

    private static void farmBounds() {
        LightYearsAreOwed x = sixLights();
        x.look(0, 0, 1);
        x.look(4, 5, 2);
        EDGE.bounds("15: looker", v -> x.farm(v, 1), 0, 0, 4, 1, BAD);
        EDGE.bounds("15: k", v -> x.farm(4, v), 0, 0, 99999, NONE, BAD);
        CHECK.due("15: both are BAD", x.farm(5, -1), BAD);
    }

    private static void farmFirstAndLastNight() {
        for (int t = 0; t < 12; t++) {
            LightYearsAreOwed x = sixLights();
            x.look(0, 0, 1 << t);
            CHECK.due("15: in night " + t + " alone", x.farm(0, t + 1), t);
            CHECK.due("15: for 1", x.farm(0, 1), t);
            CHECK.due("15: for 0 at once", x.farm(0, 0), 0);
            CHECK.due("15: never so much", x.farm(0, t + 2), NONE);
            x.set(0, 0, 1 << t);
            CHECK.due("15: under a cloud never", x.farm(0, 1), NONE);
            CHECK.due("15: under a cloud 0 at once", x.farm(0, 0), 0);
        }
    }

    /** "comes to k or more". */
    private static void farmJustAsMuch() {
        LightYearsAreOwed x = sixLights();
        x.look(0, 0, 4095);
        int sum = 0;
        for (int t = 0; t < 12; t++) {
            sum += t + 1;
            CHECK.due("15: just " + sum, x.farm(0, sum), t);
            CHECK.due("15: one more than " + sum, x.farm(0, sum + 1), t == 11 ? NONE : t + 1);
        }
    }

    /** "what one LOOKED at up to it, it, too, alone": extras come by the third night's own. */
    private static void farmUpToIt() {
        LightYearsAreOwed x = Told.by("10", "0", "50");
        x.light(0, 0, 1);
        x.look(0, 0, 2 + 16 + 64 + 1024);
        CHECK.due("15: two nights", x.farm(0, 20), 4);
        CHECK.due("15: three nights and extras", x.farm(0, 21), 6);
        CHECK.due("15: all of three", x.farm(0, 80), 6);
        CHECK.due("15: a fourth", x.farm(0, 81), 10);
        CHECK.due("15: no more", x.farm(0, 91), NONE);
        CHECK.due("15: all that was looked in stays", x.look(0, 0, 0), 2 + 16 + 64 + 1024);
    }

    private static void farmComesToLessLater() {
        LightYearsAreOwed x = Told.by("10", "0", "0");
        x.light(3, 3, 1);
        x.look(0, 0, 1 + 2 + 4 + 8);
        CHECK.due("15: 20 by the first night", x.farm(0, 20), 0);
        CHECK.due("15: 40 by the second, though 4 in the end", x.farm(0, 40), 1);
        CHECK.due("15: never 41", x.farm(0, 41), NONE);
        CHECK.due("15: it is less now", x.told(0, 8), 4);
    }

    private static void farmWithoutPaid() {
        LightYearsAreOwed x = Told.by("10", "0", "0");
        x.light(0, 0, 1);
        x.look(0, 0, 2 + 8);
        x.set(5, 2, 2);
        x.pay(0);
        CHECK.due("15: nothing is due", x.told(0, 8), 0);
        CHECK.due("15: without what is paid", x.farm(0, 20), 3);
        CHECK.due("15: not more", x.farm(0, 21), NONE);
    }

    /** Lookers live at these miles and owe so much each. */
    private static LightYearsAreOwed living(int[] miles, int[] owing) {
        LightYearsAreOwed x = Told.by("years", "0", "0");
        for (int i = 0; i < 5; i++) {
            x.set(3, i, miles[i]);
            int light = x.light(0, 0, Math.max(owing[i], 1));
            x.look(i, light, owing[i] > 0 ? 1 : 0);
        }
        return x;
    }

    private static void walk(String name, LightYearsAreOwed x, int mile, int k, int... want) {
        for (int what = 0; what < 3; what++) {
            CHECK.due("16: " + name + ", walk(" + mile + ", " + k + ", " + what + ")",
                    x.walk(mile, k, what), want[what]);
        }
    }

    private static void walkBounds() {
        LightYearsAreOwed x = living(new int[] {20, 0, 30, 40, 50}, new int[] {9, 0, 0, 0, 0});
        EDGE.bounds("16: mile", v -> x.walk(v, 1, 0), 0, 20, 99, 79, BAD);
        EDGE.bounds("16: k, how many", v -> x.walk(5, v, 2), 0, 5, 99999, 0, BAD);
        EDGE.bounds("16: k, how far", v -> x.walk(5, v, 0), 0, 55, 99999, 0, BAD);
        EDGE.bounds("16: k, first", v -> x.walk(5, v, 1), 0, 1, 99999, NONE, BAD);
        EDGE.bounds("16: what", v -> x.walk(21, 9, v), 0, 1, 2, 1, BAD);
        for (int what = 0; what < 3; what++) {
            CHECK.due("16: the mile is BAD", x.walk(100, 0, what), BAD);
            CHECK.due("16: k is BAD, to none", x.walk(0, 100000, what), BAD);
        }
    }

    /** "(0: none)": also from afar, and FIRST is NONE. */
    private static void walkToNone() {
        LightYearsAreOwed x = living(new int[] {20, 10, 30, 40, 50}, new int[] {9, 8, 7, 6, 5});
        walk("none", x, 99, 10, 0, NONE, 0);
        walk("none", x, 0, 10, 0, NONE, 0);
        walk("none there yet", new LightYearsAreOwed(), 99, 1, 0, NONE, 0);
        walk("all owe 0 or more", new LightYearsAreOwed(), 99, 0, 99, 0, 5);
    }

    /** "whose ALL is k or more". */
    private static void walkByJustAsMuch() {
        LightYearsAreOwed x = living(new int[] {20, 10, 30, 40, 50}, new int[] {9, 8, 7, 6, 5});
        walk("9", x, 5, 9, 15, 0, 1);
        walk("8", x, 5, 8, 15, 1, 2);
        walk("7", x, 5, 7, 25, 1, 3);
        walk("6", x, 5, 6, 35, 1, 4);
        walk("5", x, 5, 5, 45, 1, 5);
        walk("0", x, 5, 0, 45, 1, 5);
    }

    /** Tries all ways from one end to the other, from every mile. */
    private static void walkFromEveryMile() {
        LightYearsAreOwed x = living(new int[] {60, 31, 45, 70, 0}, new int[] {9, 9, 9, 9, 0});
        for (int mile = 0; mile < 100; mile++) {
            int byLeast = Math.abs(mile - 31) + 39;
            int byMost = Math.abs(mile - 70) + 39;
            walk("every mile", x, mile, 9, Math.min(byLeast, byMost), mile <= 50 ? 1 : 3, 4);
        }
    }

    private static void walkToOneEnd() {
        LightYearsAreOwed x = living(new int[] {0, 99, 0, 0, 0}, new int[] {9, 9, 0, 0, 0});
        walk("at the least", x, 0, 9, 99, 0, 2);
        walk("at the most", x, 99, 9, 99, 1, 2);
        walk("one of them alone", living(new int[] {7, 99, 0, 0, 0}, new int[] {9, 0, 0, 0, 0}),
                7, 9, 0, 0, 1);
        LightYearsAreOwed y = living(new int[] {9, 9, 9, 9, 9}, new int[] {0, 9, 9, 0, 9});
        walk("all at one mile", y, 0, 9, 9, 1, 3);
        walk("all at this mile", y, 9, 9, 0, 1, 3);
        walk("from above", y, 99, 9, 90, 1, 3);
    }

    /** "of like ends the lesser mile". */
    private static void walkOfLikeEnds() {
        LightYearsAreOwed x = living(new int[] {60, 40, 0, 0, 0}, new int[] {9, 9, 0, 0, 0});
        walk("the middle", x, 50, 9, 30, 1, 2);
        walk("below it", x, 49, 9, 29, 1, 2);
        walk("above it", x, 51, 9, 29, 0, 2);
        LightYearsAreOwed y = living(new int[] {41, 40, 0, 0, 0}, new int[] {9, 9, 0, 0, 0});
        walk("no mile is the middle", y, 40, 9, 1, 1, 2);
        walk("no mile is the middle", y, 41, 9, 1, 0, 2);
    }

    /** "of those at that mile the first": of those who owe it. */
    private static void walkToTheFirstAtThatMile() {
        LightYearsAreOwed x = living(new int[] {10, 10, 90, 10, 90}, new int[] {0, 5, 0, 9, 7});
        walk("the least mile", x, 0, 5, 90, 1, 3);
        walk("who owes enough there", x, 0, 6, 90, 3, 2);
        walk("the most mile", x, 99, 5, 89, 4, 3);
        walk("whoever lives there", x, 0, 0, 90, 0, 5);
        walk("whoever lives there", x, 99, 0, 89, 2, 5);
    }

    private static void walkByAllLessPaid() {
        LightYearsAreOwed x = living(new int[] {10, 20, 30, 40, 50}, new int[] {9, 9, 9, 9, 9});
        x.set(5, 0, 20);
        x.pay(0);
        walk("but the one who paid", x, 0, 1, 50, 1, 4);
        x.set(2, 0, 10);
        walk("who owes 1 more", x, 0, 1, 50, 0, 5);
        x.set(0, 0, 1);
        walk("under clouds none", x, 0, 1, 0, NONE, 0);
    }
}
