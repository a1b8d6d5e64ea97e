/** Promises 17 to 23: tells, film, drawn, chance, image, back, count. */
public final class ToldTest {
    private static final Check CHECK = new Check("ToldTest");

    public static void main(String[] args) {
        promise17First();
        promise17Texts();
        promise17Clouds();
        promise17Traits();
        promise17OtherLights();
        promise17Refusals();
        promise18Film();
        promise19Drawn();
        promise20Chance();
        promise21ImageAnd22Back();
        promise22WhatStays();
        promise23Count();
        CHECK.end();
    }

    private static void promise17First() {
        LightYearsAreOwed x = new LightYearsAreOwed();
        x.light(0, 0, 10);
        x.light(0, 0, 20);
        x.look(1, 0, 1);
        x.look(1, 1, 2);
        Told.row(x, 0, 2, 10, 20);
        CHECK.due("17: all so", x.tells(0, 1, 0), -1);
        CHECK.due("17: another looker", x.tells(0, 0, 0), 0);
        Told.row(x, 1, 1, 10, 21);
        CHECK.due("17: light 1 is otherwise", x.tells(1, 1, 0), 1);
        Told.row(x, 2, 0, 11, 21);
        CHECK.due("17: light 0 is otherwise", x.tells(2, 1, 0), 0);
        x.set(2, 1, 200);
        x.force(Told.text(x, "dues 50;offs 0;extras 0;"));
        x.look(1, 0, 7);
        x.look(1, 1, 0);
        Told.row(x, 3, 0, 150, 0);
        CHECK.due("17: a byte tells -106, not 150", x.tells(3, 1, 0), 0);
        Told.row(x, 3, 1, 150, 0);
        CHECK.due("17: a short tells 150", x.tells(3, 1, 0), -1);
        Told.row(x, 3, 1, 150 + 65536, 65536);
        CHECK.due("17: a short's lowest 16 bits", x.tells(3, 1, 0), -1);
        Told.row(x, 3, 2, 150 + 65536, 65536);
        CHECK.due("17: an int's all bits", x.tells(3, 1, 0), 0);
    }

    private static void promise17Texts() {
        LightYearsAreOwed x = new LightYearsAreOwed();
        x.light(0, 5, 10);
        x.look(0, 0, 1);
        Told.text(x, "dues 2*number;offs 0;extras 9;");
        Told.text(x, "dues 11;offs 0;extras 0;");
        Told.text(x, "dues 11;offs 1;extras 0;");
        Told.row(x, 0, 2, 10);
        CHECK.due("17: texts 0, 1, 3", x.tells(0, 0, 1), 11);
        x.force(2);
        CHECK.due("17: whichever is the rule", x.tells(0, 0, 1), 11);
        CHECK.due("17: by the rule it is otherwise", x.tells(0, 0, 0), 0);
        CHECK.due("17: the rule stays", x.count(5), 2);
        x.look(0, 0, 7);
        Told.row(x, 0, 2, 33);
        CHECK.due("17: texts 0, 2", x.tells(0, 0, 1), 5);
        Told.row(x, 0, 2, 34);
        CHECK.due("17: none", x.tells(0, 0, 1), 0);
    }

    private static void promise17Clouds() {
        LightYearsAreOwed x = new LightYearsAreOwed();
        x.light(0, 5, 10);
        x.light(0, 5, 10);
        x.look(0, 0, 1 + 2 + 2048);
        x.look(0, 1, 1);
        Told.row(x, 0, 2, 20, 10);
        CHECK.due("17: clouds in night 1 or 11", x.tells(0, 0, 2), 2 + 2048);
        x.set(0, 0, 4095);
        CHECK.due("17: whatever clouds there are", x.tells(0, 0, 2), 2 + 2048);
        CHECK.due("17: clouds stay", x.count(1), 12);
        Told.row(x, 0, 2, 20, 0);
        CHECK.due("17: a cloud in night 0", x.tells(0, 0, 2), 1);
        Told.row(x, 0, 2, 33, 10);
        CHECK.due("17: clouds elsewhere or nowhere", x.tells(0, 0, 2), 4096 + 4095 - 2048 - 3);
        Told.row(x, 0, 2, 33, 0);
        CHECK.due("17: no such clouds", x.tells(0, 0, 2), 0);
        Told.dues(x, "cloudy+1");
        Told.row(x, 0, 2, 3, 1);
        CHECK.due("17: cloudy by no cloud", x.tells(0, 0, 2), 4096);
        Told.row(x, 0, 2, 6, 2);
        CHECK.due("17: cloudy by a cloud not looked in", x.tells(0, 0, 2), 4095 - 2048 - 3);
    }

    private static void promise17Traits() {
        LightYearsAreOwed x = new LightYearsAreOwed();
        x.light(0, 5, 10);
        x.look(0, 0, 1);
        Told.row(x, 0, 2, 20);
        CHECK.due("17: twin or comet", x.tells(0, 0, 10), 2 + 8);
        CHECK.due("17: as a light no number does", x.tells(0, 0, 20), 0);
        CHECK.due("17: one year does", x.tells(0, 0, 30), 1);
        CHECK.due("17: the least", x.tells(0, 0, 40), 20);
        CHECK.due("17: the kind stays", x.told(0, 6), 0);
        CHECK.due("17: the number stays", x.told(0, 1), 5);
        CHECK.due("17: the years stay", x.told(0, 2), 10);
        Told.row(x, 0, 2, 99);
        CHECK.due("17: 99 years and more", x.tells(0, 0, 30), 901);
        CHECK.due("17: 99 the least", x.tells(0, 0, 40), 99);
        Told.row(x, 0, 2, 100);
        CHECK.due("17: no years", x.tells(0, 0, 30), 0);
        CHECK.due("17: no least", x.tells(0, 0, 40), -1);
        CHECK.due("17: no kind", x.tells(0, 0, 10), 0);
        Told.row(x, 0, 2, 1);
        CHECK.due("17: a lamp", x.tells(0, 0, 10), 32);
        CHECK.due("17: of one year", x.tells(0, 0, 30), 1);
        CHECK.due("17: 1 the least", x.tells(0, 0, 40), 1);
        LightYearsAreOwed y = new LightYearsAreOwed();
        y.light(5, 0, 7);
        Told.row(y, 0, 2, 0);
        CHECK.due("17: not seen: all kinds", y.tells(0, 0, 10), 63);
        CHECK.due("17: not seen: all numbers", y.tells(0, 0, 20), 1023);
        CHECK.due("17: not seen: all years", y.tells(0, 0, 30), 999);
        CHECK.due("17: not seen: from 1 on", y.tells(0, 0, 40), 1);
        x.light(3, 0, 1);
        x.look(1, 1, 15);
        Told.row(x, 0, 2, 0, 8 + 7);
        CHECK.due("17: a comet of more than 4", x.tells(0, 1, 21), 1023 - 31);
        Told.row(x, 0, 2, 0, 7);
        CHECK.due("17: a comet of up to 4", x.tells(0, 1, 21), 31);
        CHECK.due("17: a light or that comet", x.tells(0, 1, 11), 1 + 8);
        x.light(4, 3, 500);
        x.look(2, 2, 1);
        Told.row(x, 0, 2, 0, 0, 49 + 5 - 3);
        CHECK.due("17: a giant of 5 hundred years", x.tells(0, 2, 32), 100);
        CHECK.due("17: 500 the least", x.tells(0, 2, 42), 500);
        CHECK.due("17: of number 3", x.tells(0, 2, 22), 8);
    }

    private static void promise17OtherLights() {
        LightYearsAreOwed x = new LightYearsAreOwed();
        x.light(0, 5, 10);
        x.light(0, 5, 30);
        x.look(0, 0, 1);
        x.look(0, 1, 1);
        Told.row(x, 0, 2, 20, 31);
        for (int what = 10; what < 40; what += 10) {
            CHECK.due("17: the other light is otherwise, " + what, x.tells(0, 0, what), 0);
            CHECK.due("17: none of both is so, " + what, x.tells(0, 0, what + 1), 0);
        }
        CHECK.due("17: no least", x.tells(0, 0, 40), -1);
        Told.row(x, 0, 2, 20, 30);
        CHECK.due("17: as told but for light 0", x.tells(0, 0, 30), 1);
        CHECK.due("17: light 1 can't mend light 0", x.tells(0, 0, 31), 0);
    }

    private static void promise17Refusals() {
        LightYearsAreOwed x = new LightYearsAreOwed();
        Told.row(x, 0, 2);
        CHECK.due("17: no lights, all so", x.tells(0, 0, 0), -1);
        CHECK.due("17: no lights, text 0", x.tells(0, 0, 1), 1);
        CHECK.due("17: no lights, any clouds", x.tells(0, 0, 2), 8191);
        CHECK.due("17: no such light", x.tells(0, 0, 10), -2);
        x.light(0, 0, 1);
        CHECK.due("17: its size is another", x.tells(0, 0, 0), -2);
        Told.row(x, 0, 2, 0, 0);
        CHECK.due("17: its size is more", x.tells(0, 0, 0), -2);
        Told.row(x, 0, 2, 0);
        int[] bad = {-1, 3, 4, 9, 11, 19, 21, 31, 41, 49, 50, 60, 100, -10, Integer.MIN_VALUE};
        for (int what : bad) {
            CHECK.due("17: what " + what, x.tells(0, 0, what), -2);
            CHECK.due("17: what is ahead of missing, " + what, x.tells(1, 0, what), -2);
        }
        CHECK.due("17: sheet -1", x.tells(-1, 0, 0), -2);
        CHECK.due("17: sheet 4", x.tells(4, 0, 0), -2);
        CHECK.due("17: looker -1", x.tells(0, -1, 0), -2);
        CHECK.due("17: looker 5", x.tells(0, 5, 0), -2);
        CHECK.due("17: looker is ahead of missing", x.tells(1, 5, 0), -2);
        CHECK.due("17: missing", x.tells(1, 0, 0), -11);
        CHECK.due("17: missing, of a light", x.tells(1, 0, 10), -11);
    }

    private static void promise18Film() {
        LightYearsAreOwed x = new LightYearsAreOwed();
        CHECK.due("18: no lights", x.film(0, 0), 0);
        CHECK.due("18: no longer missing", x.cell(0, 0, 0), -12);
        x.light(0, 0, 10);
        x.light(1, 0, 99);
        x.look(4, 0, 1);
        x.look(4, 1, 3);
        Told.row(x, 1, 0, 1, 2, 3, 4, 5);
        CHECK.due("18: two", x.film(1, 4), 2);
        CHECK.due("18: as it is", x.tells(1, 4, 0), -1);
        CHECK.due("18: of just two", x.cell(1, 2, 0), -12);
        Told.row(x, 2, 2, 10, 396);
        CHECK.due("18: 10 and 396", x.tells(2, 4, 0), -1);
        CHECK.due("18: they are ints", x.copy(1, 0, 2, 0, 2), 2);
        CHECK.due("18: not shorts", x.lights(1, 1, 0, 0), -13);
        x.look(4, 1, 1);
        CHECK.due("18: a film does not change with it", x.tells(1, 4, 0), 1);
        CHECK.due("18: sheet -1", x.film(-1, 0), -2);
        CHECK.due("18: sheet 4", x.film(4, 0), -2);
        CHECK.due("18: looker -1", x.film(0, -1), -2);
        CHECK.due("18: looker 5", x.film(0, 5), -2);
        CHECK.due("18: refused, it stays", x.film(0, 0), 2);
    }

    /** Clouds by the document's words, with longs. */
    private static int cloudsBy(int seed) {
        long z = seed & 0xffffffffL;
        int clouds = 0;
        for (int t = 0; t < 12; t++) {
            z = (z * 1103515245L + 12345L) & 0xffffffffL;
            if ((z >> 9) % 3 == 0) {
                clouds += 1 << t;
            }
        }
        return clouds;
    }

    private static void promise19Drawn() {
        LightYearsAreOwed x = new LightYearsAreOwed();
        CHECK.due("19: nothing owed", x.drawn(7), 0);
        x.light(0, 0, 1);
        x.look(0, 0, 4095);
        x.look(1, 0, 5);
        Told.dues(x, "1+cloudy");
        int[] seeds = {0, 1, -1, 42, Integer.MAX_VALUE, Integer.MIN_VALUE, 123456789};
        for (int seed : seeds) {
            int clouds = cloudsBy(seed);
            int nights = 12 - Integer.bitCount(clouds) + Integer.bitCount(5 & ~clouds);
            CHECK.due("19: drawn by " + seed, x.drawn(seed),
                    nights * (1 + Integer.bitCount(clouds)));
        }
        // 1103527590 >>> 9 is 2155327, of which 1 remains by 3: no cloud in night 0.
        x.force(0);
        x.look(0, 0, 0);
        x.look(1, 0, 1);
        CHECK.due("19: night 0 by seed 1", x.drawn(1), 1);
        // 12345 >>> 9 is 24: a cloud in night 0.
        CHECK.due("19: night 0 by seed 0", x.drawn(0), 0);
        CHECK.due("19: clouds stay as they are", x.count(1), 0);
        CHECK.due("19: owed as it is", x.all(0), 1);
        x.set(0, 0, 1);
        CHECK.due("19: drawn whatever clouds there are", x.drawn(1), 1);
        CHECK.due("19: they stay", x.told(0, 0), 1);
        x.set(0, 0, 0);
        x.set(5, 0, 1);
        x.pay(1);
        CHECK.due("19: less what is paid", x.drawn(1), 0);
    }

    private static void promise20Chance() {
        LightYearsAreOwed x = new LightYearsAreOwed();
        CHECK.due("20: nothing, 0 or more", x.chance(5, 7, 0, 0), 1);
        CHECK.due("20: below the line", x.chance(5, 7, 0, 1), 1);
        CHECK.due("20: nothing, 1 or more", x.chance(5, 7, 1, 0), 0);
        CHECK.due("20: 0 in lowest terms", x.chance(5, 7, 1, 1), 1);
        x.light(0, 0, 1);
        x.look(0, 0, 1);
        int[] starts = {0, 1, 77, -10, Integer.MAX_VALUE - 3};
        for (int start : starts) {
            for (int m = 1; m <= 20; m++) {
                int those = 0;
                for (int i = 0; i < m; i++) {
                    those += (cloudsBy(start + i) & 1) == 0 ? 1 : 0;
                }
                int common = those == 0 ? m : 1;
                for (int d = 2; d <= m; d++) {
                    common = those > 0 && those % d == 0 && m % d == 0 ? d : common;
                }
                CHECK.due("20: above, from " + start + ", of " + m,
                        x.chance(start, m, 1, 0), those / common);
                CHECK.due("20: below, from " + start + ", of " + m,
                        x.chance(start, m, 1, 1), m / common);
            }
        }
        CHECK.due("20: 2 or more", x.chance(1, 1, 2, 0), 0);
        CHECK.due("20: just 1", x.chance(1, 1, 1, 0), 1);
        long no = -4611686018427387904L;
        CHECK.due("20: m 0", x.chance(0, 0, 0, 0), no);
        CHECK.due("20: m 21", x.chance(0, 21, 0, 0), no);
        CHECK.due("20: m -1", x.chance(0, -1, 0, 0), no);
        CHECK.due("20: k -1", x.chance(0, 1, -1, 0), no);
        CHECK.due("20: k 100000", x.chance(0, 1, 100000, 0), no);
        CHECK.due("20: k 99999", x.chance(0, 1, 99999, 0), 0);
        CHECK.due("20: part -1", x.chance(0, 1, 0, -1), no);
        CHECK.due("20: part 2", x.chance(0, 1, 0, 2), no);
    }

    private static void promise21ImageAnd22Back() {
        LightYearsAreOwed x = new LightYearsAreOwed();
        CHECK.due("22: there is none", x.back(), -3);
        Told.text(x, "dues 2*years;offs 0;extras 0;");
        x.light(0, 1, 10);
        x.light(2, 2, 20);
        x.look(3, 1, 7);
        x.set(0, 0, 8);
        x.set(3, 3, 33);
        x.set(5, 0, 20);
        x.set(5, 2, 20);
        x.force(1);
        x.pay(3);
        CHECK.due("21: how many lights", x.image(), 2);
        int[] told = tellAll(x, 2);
        x.force(0);
        x.set(0, 0, 4);
        x.set(1, 1, 9);
        x.set(2, 0, 9);
        x.set(3, 3, 1);
        x.set(4, 1, 77);
        x.set(5, 1, 7);
        x.look(3, 1, 1);
        x.look(0, 0, 4095);
        x.light(5, 0, 5);
        x.look(0, 2, 3);
        x.set(5, 0, 20);
        x.set(5, 2, 20);
        x.set(5, 3, 20);
        CHECK.due("22: pays 104 in between, 50 + 50 + 4", x.pay(0), 6);
        CHECK.due("22: how many lights", x.back(), 2);
        int[] again = tellAll(x, 2);
        for (int i = 0; i < told.length; i++) {
            CHECK.due("22: as it was, " + i, again[i], told[i]);
        }
        CHECK.due("22: the light that came since is gone", x.told(2, 1), -2);
        x.set(0, 0, 15);
        CHECK.due("22: once more", x.back(), 2);
        CHECK.due("22: the image is still there", x.told(0, 0), 8);
        x.set(0, 0, 15);
        x.light(4, 0, 5);
        CHECK.due("21: another image", x.image(), 3);
        x.set(0, 0, 1);
        CHECK.due("22: by the later one", x.back(), 3);
        CHECK.due("22: its clouds", x.told(0, 0), 15);
        CHECK.due("22: its light", x.told(2, 6), 4);
    }

    private static int[] tellAll(LightYearsAreOwed x, int lights) {
        int[] all = new int[200];
        int n = 0;
        for (int what = 0; what < 10; what++) {
            for (int of = 0; of < 6; of++) {
                all[n++] = x.told(of, what);
            }
        }
        for (int one = 0; one < 5; one++) {
            for (int i = 0; i < lights; i++) {
                all[n++] = x.owes(one, i, 0);
                all[n++] = x.owes(one, i, 1);
            }
        }
        for (int what = 0; what < 6; what++) {
            all[n++] = x.count(what);
        }
        return all;
    }

    /** Texts, the tape and sheets are no part of an image. */
    private static void promise22WhatStays() {
        LightYearsAreOwed x = new LightYearsAreOwed();
        CHECK.due("21: no lights", x.image(), 0);
        Told.text(x, "dues 7;offs 0;extras 0;");
        x.force(1);
        Told.row(x, 0, 0, 1, 2, 3);
        Told.feed(x, "du");
        CHECK.due("22: no lights", x.back(), 0);
        CHECK.due("22: texts stay", x.count(3), 2);
        CHECK.due("22: the tape stays", x.count(4), 2);
        CHECK.due("22: the rule goes back", x.count(5), 0);
        CHECK.due("22: sheets stay", x.cell(0, 2, 0), 1);
        CHECK.due("22: the text can be the rule", x.force(1), 0);
        x.light(0, 0, 1);
        CHECK.due("22: as it tells", x.owes(0, 0, 10), 7);
    }

    private static void promise23Count() {
        LightYearsAreOwed x = new LightYearsAreOwed();
        for (int i = 0; i < 6; i++) {
            x.light(0, 0, 1);
            CHECK.due("23: lights", x.count(0), i + 1);
        }
        x.set(0, 0, 0xa5f);
        CHECK.due("23: clouds", x.count(1), 8);
        x.set(5, 0, 20);
        x.set(5, 1, 3);
        x.set(5, 2, 4);
        x.set(5, 3, 5);
        CHECK.due("23: pieces", x.count(2), 32);
        Told.text(x, "dues 7;offs 0;extras 0;");
        CHECK.due("23: texts", x.count(3), 2);
        Told.feed(x, "abc");
        CHECK.due("23: bytes of the tape", x.count(4), 3);
        x.force(1);
        CHECK.due("23: the rule", x.count(5), 1);
        CHECK.due("23: -1", x.count(-1), -2);
        CHECK.due("23: 6", x.count(6), -2);
    }
}
