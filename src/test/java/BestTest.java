/** Promises 13 to 16: cheapest, leave, farm, walk. */
public final class BestTest {
    private static final Check CHECK = new Check("BestTest");

    public static void main(String[] args) {
        promise13Cheapest();
        promise13None();
        promise13OtherLights();
        promise13Bad();
        promise14Leave();
        promise14OtherLights();
        promise15Farm();
        promise16Walk();
        promise16First();
        promise16Bad();
        CHECK.end();
    }

    private static void promise13Cheapest() {
        LightYearsAreOwed x = new LightYearsAreOwed();
        Told.dues(x, "20 - 9*(night=5) - 9*(night=7) - 12*(night=2)");
        x.light(0, 0, 1);
        x.light(0, 0, 1);
        x.look(0, 1, 1);
        CHECK.due("13: the least night", x.cheapest(0, 0, 0), 2);
        CHECK.due("13: all then", x.cheapest(0, 0, 1), 20 + 8);
        x.look(0, 0, 4);
        CHECK.due("13: looked in it: the first of like ones", x.cheapest(0, 0, 0), 5);
        CHECK.due("13: all then", x.cheapest(0, 0, 1), 20 + 8 + 11);
        x.set(0, 0, 32);
        CHECK.due("13: under a cloud: the next", x.cheapest(0, 0, 0), 7);
        CHECK.due("13: another looker's", x.cheapest(1, 0, 0), 2);
        CHECK.due("13: nothing changed", x.look(0, 0, 4), 4);
        x.set(5, 0, 20);
        x.set(5, 2, 2);
        CHECK.due("13: pays 28", x.pay(0), 10);
        CHECK.due("13: without what is paid", x.cheapest(0, 0, 1), 28 + 11);
        CHECK.due("13: the night as before", x.cheapest(0, 0, 0), 7);
    }

    private static void promise13None() {
        LightYearsAreOwed x = new LightYearsAreOwed();
        x.light(0, 0, 1);
        x.set(0, 0, 1);
        CHECK.due("13: night 0 has a cloud", x.cheapest(0, 0, 0), 1);
        x.look(0, 0, 4094);
        CHECK.due("13: none counts that wasn't looked in", x.cheapest(0, 0, 0), -1);
        CHECK.due("13: no all then", x.cheapest(0, 0, 1), -1);
        x.set(0, 0, 0);
        CHECK.due("13: the one", x.cheapest(0, 0, 0), 0);
        CHECK.due("13: 12 and 3 more", x.cheapest(0, 0, 1), 15);
        x.set(0, 0, 4095);
        CHECK.due("13: all clouds", x.cheapest(0, 0, 0), -1);
    }

    /** A comet comes to less by one night more; one light more lets off more for all. */
    private static void promise13OtherLights() {
        LightYearsAreOwed x = new LightYearsAreOwed();
        x.light(3, 2, 40);
        x.look(0, 0, 1);
        CHECK.due("13: less by a night", x.cheapest(0, 0, 1), 0);
        CHECK.due("13: than now", x.told(0, 8), 80);
        x.force(Told.text(x, "dues 30;offs 10*lights;extras 0;"));
        x.light(0, 0, 1);
        CHECK.due("13: the other light is let off, too", x.cheapest(0, 1, 1), 60 + 30 - 20);
        CHECK.due("13: now", x.told(0, 8), 60);
    }

    private static void promise13Bad() {
        LightYearsAreOwed x = new LightYearsAreOwed();
        x.light(0, 0, 1);
        CHECK.due("13: looker -1", x.cheapest(-1, 0, 0), -2);
        CHECK.due("13: looker 5", x.cheapest(5, 0, 0), -2);
        CHECK.due("13: light -1", x.cheapest(0, -1, 0), -2);
        CHECK.due("13: light 1", x.cheapest(0, 1, 0), -2);
        CHECK.due("13: what -1", x.cheapest(0, 0, -1), -2);
        CHECK.due("13: what 2", x.cheapest(0, 0, 2), -2);
    }

    private static void promise14Leave() {
        LightYearsAreOwed x = new LightYearsAreOwed();
        CHECK.due("14: no light", x.leave(0, 0), -1);
        CHECK.due("14: as now", x.leave(0, 1), 0);
        x.light(0, 0, 5);
        x.light(0, 0, 9);
        x.light(0, 0, 9);
        CHECK.due("14: none seen", x.leave(0, 0), -1);
        x.look(0, 0, 1);
        x.look(0, 1, 1);
        x.look(0, 2, 1);
        CHECK.due("14: the first of like ones", x.leave(0, 0), 1);
        CHECK.due("14: all then", x.leave(0, 1), 14);
        x.look(0, 0, 3);
        CHECK.due("14: the dearest", x.leave(0, 0), 0);
        CHECK.due("14: all then", x.leave(0, 1), 18);
        CHECK.due("14: nothing changed", x.look(0, 0, 3), 3);
        x.set(5, 2, 2);
        x.set(5, 0, 8);
        CHECK.due("14: pays 28", x.pay(0), 10);
        CHECK.due("14: without what is paid", x.leave(0, 1), 18);
        CHECK.due("14: the light as before", x.leave(0, 0), 0);
        x.set(0, 0, 3);
        CHECK.due("14: under clouds none", x.leave(0, 0), -1);
        CHECK.due("14: as now, none", x.leave(0, 1), 0);
        CHECK.due("14: looker -1", x.leave(-1, 0), -2);
        CHECK.due("14: looker 5", x.leave(5, 0), -2);
        CHECK.due("14: what -1", x.leave(0, -1), -2);
        CHECK.due("14: what 2", x.leave(0, 2), -2);
    }

    private static void promise14OtherLights() {
        LightYearsAreOwed x = new LightYearsAreOwed();
        x.force(Told.text(x, "dues 30;offs 10*lights;extras 0;"));
        x.light(0, 0, 1);
        x.light(5, 0, 1);
        x.look(0, 0, 1);
        x.look(0, 1, 1);
        CHECK.due("14: now 10", x.told(0, 8), 10);
        CHECK.due("14: leaving the lamp makes it more", x.leave(0, 0), 0);
        CHECK.due("14: all then", x.leave(0, 1), 0);
        x.light(0, 0, 1);
        x.look(0, 0, 0);
        x.look(0, 1, 0);
        x.force(Told.text(x, "dues 30*lights;offs 40;extras 0;"));
        x.look(0, 2, 1);
        CHECK.due("14: 0 now: none is less", x.leave(0, 0), -1);
    }

    private static void promise15Farm() {
        LightYearsAreOwed x = new LightYearsAreOwed();
        CHECK.due("15: 0 at once", x.farm(0, 0), 0);
        CHECK.due("15: 1 never", x.farm(0, 1), -1);
        x.light(0, 0, 10);
        x.light(0, 0, 5);
        x.look(0, 0, 2 + 8 + 32 + 2048);
        x.look(0, 1, 8);
        int[][] want = {{0, 0}, {1, 1}, {10, 1}, {11, 3}, {25, 3}, {26, 5}, {38, 5}, {39, 11},
            {48, 11}, {49, -1}, {99999, -1}};
        for (int[] w : want) {
            CHECK.due("15: farm for " + w[0], x.farm(0, w[0]), w[1]);
        }
        CHECK.due("15: another looker", x.farm(1, 1), -1);
        x.set(0, 0, 2);
        CHECK.due("15: a cloud is none of it", x.farm(0, 1), 3);
        x.set(0, 0, 0);
        x.set(5, 2, 4);
        x.set(5, 0, 8);
        CHECK.due("15: pays 48", x.pay(0), 12);
        CHECK.due("15: without what is paid", x.farm(0, 26), 5);
        CHECK.due("15: looker -1", x.farm(-1, 0), -2);
        CHECK.due("15: looker 5", x.farm(5, 0), -2);
        CHECK.due("15: k -1", x.farm(0, -1), -2);
        CHECK.due("15: k 100000", x.farm(0, 100000), -2);
        x.light(3, 2, 30);
        x.look(2, 2, 7);
        CHECK.due("15: a comet comes to 60 first, though to 5 in the end", x.farm(2, 60), 0);
        CHECK.due("15: in the end", x.told(2, 8), 3 + 3);
        x.force(Told.text(x, "dues 10*lights+nights;offs 0;extras 0;"));
        CHECK.due("15: names as up to that night: 11", x.farm(0, 12), 3);
        CHECK.due("15: 22 * 2 + 21", x.farm(0, 65), 3);
        CHECK.due("15: 66 needs one night more", x.farm(0, 66), 5);
    }

    /** Lookers 0 to 4 at the miles 10, 40, 70, 40, 90 owe 5, 10, 15, 10, 1. */
    private static LightYearsAreOwed walkers() {
        LightYearsAreOwed x = new LightYearsAreOwed();
        int[] miles = {10, 40, 70, 40, 90};
        int[] looked = {1, 3, 7, 3, 0};
        Told.dues(x, "5");
        x.light(0, 0, 5);
        x.light(5, 0, 1);
        for (int i = 0; i < 5; i++) {
            x.set(3, i, miles[i]);
            x.look(i, 0, looked[i]);
        }
        x.look(4, 1, 1);
        return x;
    }

    private static void walk(LightYearsAreOwed x, int mile, int k, int[] want) {
        for (int what = 0; what < 3; what++) {
            CHECK.due("16: walk(" + mile + ", " + k + ", " + what + ")",
                    x.walk(mile, k, what), want[what]);
        }
    }

    private static void promise16Walk() {
        LightYearsAreOwed x = walkers();
        walk(x, 0, 16, new int[] {0, -1, 0});
        walk(x, 0, 15, new int[] {70, 2, 1});
        walk(x, 99, 15, new int[] {29, 2, 1});
        walk(x, 70, 15, new int[] {0, 2, 1});
        walk(x, 0, 10, new int[] {70, 1, 3});
        walk(x, 40, 10, new int[] {30, 1, 3});
        walk(x, 60, 10, new int[] {40, 2, 3});
        walk(x, 99, 10, new int[] {59, 2, 3});
        walk(x, 30, 5, new int[] {80, 0, 4});
        walk(x, 50, 1, new int[] {120, 0, 5});
        walk(x, 51, 1, new int[] {119, 4, 5});
        walk(x, 51, 0, new int[] {119, 4, 5});
        walk(x, 0, 99999, new int[] {0, -1, 0});
        x.set(5, 1, 20);
        CHECK.due("16: pays 15", x.pay(2), 3);
        walk(x, 99, 10, new int[] {59, 1, 2});
    }

    private static void promise16First() {
        LightYearsAreOwed x = walkers();
        walk(x, 55, 10, new int[] {45, 1, 3});
        walk(x, 56, 10, new int[] {44, 2, 3});
        x.set(3, 0, 40);
        walk(x, 40, 5, new int[] {30, 0, 4});
        x.set(3, 4, 70);
        walk(x, 69, 1, new int[] {31, 2, 5});
        x.set(3, 2, 40);
        x.set(3, 4, 40);
        walk(x, 41, 1, new int[] {1, 0, 5});
        walk(x, 41, 6, new int[] {1, 1, 3});
        for (int i = 0; i < 5; i++) {
            x.set(3, i, 0);
        }
        walk(x, 7, 10, new int[] {7, 1, 3});
        for (int i = 0; i < 5; i++) {
            x.set(3, i, 99);
        }
        walk(x, 7, 10, new int[] {92, 1, 3});
    }

    private static void promise16Bad() {
        LightYearsAreOwed x = walkers();
        CHECK.due("16: mile -1", x.walk(-1, 0, 0), -2);
        CHECK.due("16: mile 100", x.walk(100, 0, 0), -2);
        CHECK.due("16: k -1", x.walk(0, -1, 0), -2);
        CHECK.due("16: k 100000", x.walk(0, 100000, 0), -2);
        CHECK.due("16: what -1", x.walk(0, 0, -1), -2);
        CHECK.due("16: what 3", x.walk(0, 0, 3), -2);
    }
}
