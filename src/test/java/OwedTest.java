/** Promises 9 to 12: owes, all, pieces, pay. */
public final class OwedTest {
    private static final Check CHECK = new Check("OwedTest");

    public static void main(String[] args) {
        promise9Kinds();
        promise9Comet();
        promise9Nights();
        promise9Bad();
        promise10All();
        promise11Pieces();
        promise11LikePieces();
        promise12Pay();
        promise12Ways();
        promise12State();
        CHECK.end();
    }

    /** Each kind, number 4, years 350, dues 31, offs 7, extras 20; by how many nights. */
    private static void promise9Kinds() {
        int[] due = {31, 62, 15, 62, 18, 1};
        int[] one = {31 - 7, 62 - 7, 15 - 11, 62, 18 - 11, 0};
        int[] two = {62 - 7, 124 - 7, 30 - 11, 124, 36 - 11, 0};
        int[] three = {93 + 20 - 7, 186 + 23 - 7, 45 + 20 - 11, 186 + 23, 54 + 40 - 11, 0};
        int[] twelve = {372 + 20 - 7, 744 + 32 - 7, 180 + 20 - 11, 32, 216 + 40 - 11, 5};
        for (int kind = 0; kind < 6; kind++) {
            LightYearsAreOwed x = new LightYearsAreOwed();
            x.force(Told.text(x, "dues 31;offs 7;extras 20;"));
            x.light(kind, 4, 350);
            CHECK.due("9: due of kind " + kind, x.owes(1, 0, 10), due[kind]);
            CHECK.due("9: no night, kind " + kind, x.owes(1, 0, 0), 0);
            x.look(1, 0, 8);
            CHECK.due("9: one night, kind " + kind, x.owes(1, 0, 0), one[kind]);
            x.look(1, 0, 9);
            CHECK.due("9: two nights, kind " + kind, x.owes(1, 0, 0), two[kind]);
            x.look(1, 0, 2048 + 9);
            CHECK.due("9: three nights, kind " + kind, x.owes(1, 0, 0), three[kind]);
            x.look(1, 0, 4095);
            CHECK.due("9: twelve nights, kind " + kind, x.owes(1, 0, 0), twelve[kind]);
            CHECK.due("9: twelve", x.owes(1, 0, 1), 12);
        }
    }

    private static void promise9Comet() {
        LightYearsAreOwed x = new LightYearsAreOwed();
        x.light(3, 3, 30);
        x.light(3, 0, 30);
        x.light(4, 0, 99);
        x.light(4, 0, 100);
        x.look(0, 0, 3);
        CHECK.due("9: a comet in fewer nights than its number", x.owes(0, 0, 0), 120);
        x.look(0, 0, 7);
        CHECK.due("9: a comet in as many", x.owes(0, 0, 0), 3 + 3);
        CHECK.due("9: its due", x.owes(0, 0, 15), 0);
        CHECK.due("9: a comet of number 0, not seen", x.owes(0, 1, 10), 0);
        CHECK.due("9: a comet of number 3, not seen by another", x.owes(1, 0, 10), 60);
        CHECK.due("9: a giant of 99 years", x.owes(0, 2, 10), 49);
        CHECK.due("9: a giant of 100 years (dues bounded by 99)", x.owes(0, 3, 10), 50);
    }

    private static void promise9Nights() {
        LightYearsAreOwed x = new LightYearsAreOwed();
        x.light(0, 0, 10);
        x.look(0, 0, 15);
        CHECK.due("9: four nights", x.owes(0, 0, 0), 43);
        x.set(0, 0, 1);
        CHECK.due("9: three count", x.owes(0, 0, 1), 3);
        CHECK.due("9: three nights", x.owes(0, 0, 0), 33);
        x.set(0, 0, 3 + 16);
        CHECK.due("9: two nights", x.owes(0, 0, 0), 20);
        CHECK.due("9: a due under a cloud all the same", x.owes(0, 0, 10), 10);
        x.set(0, 0, 4095);
        CHECK.due("9: no night", x.owes(0, 0, 0), 0);
        CHECK.due("9: none counts", x.owes(0, 0, 1), 0);
    }

    private static void promise9Bad() {
        LightYearsAreOwed x = new LightYearsAreOwed();
        CHECK.due("9: no light", x.owes(0, 0, 0), -2);
        x.light(0, 0, 10);
        CHECK.due("9: looker -1", x.owes(-1, 0, 0), -2);
        CHECK.due("9: looker 5", x.owes(5, 0, 0), -2);
        CHECK.due("9: light -1", x.owes(0, -1, 0), -2);
        CHECK.due("9: light 1", x.owes(0, 1, 0), -2);
        CHECK.due("9: what -1", x.owes(0, 0, -1), -2);
        CHECK.due("9: what 2", x.owes(0, 0, 2), -2);
        CHECK.due("9: what 9", x.owes(0, 0, 9), -2);
        CHECK.due("9: what 22", x.owes(0, 0, 22), -2);
        CHECK.due("9: what 21", x.owes(0, 0, 21), 10);
    }

    private static void promise10All() {
        LightYearsAreOwed x = new LightYearsAreOwed();
        CHECK.due("10: nothing at first", x.all(0), 0);
        CHECK.due("10: of like ones the first", x.all(1), 0);
        CHECK.due("10: no pieces", x.all(2), 0);
        for (int one = 0; one < 5; one++) {
            LightYearsAreOwed y = new LightYearsAreOwed();
            y.light(0, 0, 10);
            y.look(one, 0, 2);
            CHECK.due("10: looker " + one + " alone", y.all(1), one);
            y.look(0, 0, 1);
            CHECK.due("10: as much as looker 0", y.all(1), 0);
        }
        x.light(0, 0, 10);
        x.light(0, 0, 7);
        x.look(3, 0, 1);
        x.look(2, 1, 1);
        CHECK.due("10: together", x.all(0), 17);
        CHECK.due("10: most", x.all(1), 3);
        x.look(2, 0, 2);
        CHECK.due("10: most by two lights", x.all(1), 2);
        x.look(4, 0, 2);
        x.look(4, 1, 2);
        CHECK.due("10: the first of like ones", x.all(1), 2);
        CHECK.due("10: of all", x.all(0), 10 + 17 + 17);
        x.set(5, 0, 3);
        x.set(5, 1, 2);
        x.set(5, 3, 1);
        CHECK.due("10: what can be paid", x.all(2), 3 + 10 + 50);
        x.set(4, 3, 99);
        CHECK.due("10: brighter", x.all(2), 3 + 10 + 99);
        x.set(5, 0, 7);
        x.set(5, 1, 2);
        CHECK.due("10: pays", x.pay(2), 9);
        CHECK.due("10: less what is paid", x.all(0), 10 + 17);
        CHECK.due("10: most of what is not paid", x.all(1), 4);
        x.look(2, 0, 0);
        CHECK.due("10: paid too much is 0 at least", x.all(0), 10 + 17);
        CHECK.due("10: what -1", x.all(-1), -2);
        CHECK.due("10: what 3", x.all(3), -2);
    }

    private static void pieces(LightYearsAreOwed x, int sum, int fewest, int nearest) {
        CHECK.due("11: can " + sum, x.pieces(sum, 0), fewest >= 0 ? 1 : 0);
        CHECK.due("11: fewest for " + sum, x.pieces(sum, 1), fewest);
        CHECK.due("11: nearest to " + sum, x.pieces(sum, 2), nearest);
    }

    private static void promise11Pieces() {
        LightYearsAreOwed x = new LightYearsAreOwed();
        pieces(x, 0, 0, 0);
        pieces(x, 999, -1, 0);
        x.set(5, 0, 2);
        x.set(5, 1, 1);
        x.set(5, 2, 3);
        x.set(5, 3, 1);
        pieces(x, 1, 1, 1);
        pieces(x, 2, 2, 2);
        pieces(x, 3, -1, 2);
        pieces(x, 4, -1, 2);
        pieces(x, 5, 1, 5);
        pieces(x, 9, -1, 7);
        pieces(x, 37, 6, 37);
        pieces(x, 38, -1, 37);
        pieces(x, 49, -1, 37);
        pieces(x, 50, 1, 50);
        pieces(x, 87, 7, 87);
        pieces(x, 88, -1, 87);
        pieces(x, 999, -1, 87);
        CHECK.due("11: x -1", x.pieces(-1, 0), -2);
        CHECK.due("11: x 1000", x.pieces(1000, 0), -2);
        CHECK.due("11: what -1", x.pieces(0, -1), -2);
        CHECK.due("11: what 3", x.pieces(0, 3), -2);
    }

    /** The greedy way is not the fewest: 12 = 4 + 4 + 4, not 9 + 1 + 1 + 1; 8 = 4 + 4. */
    private static void promise11LikePieces() {
        LightYearsAreOwed x = new LightYearsAreOwed();
        int[] bright = {1, 4, 9, 9};
        for (int i = 0; i < 4; i++) {
            x.set(4, i, bright[i]);
            x.set(5, i, i < 2 ? 3 : 20);
        }
        pieces(x, 12, 3, 12);
        pieces(x, 8, 2, 8);
        pieces(x, 7, 4, 7);
        pieces(x, 360, 40, 360);
        pieces(x, 375, 46, 375);
        pieces(x, 376, -1, 375);
        for (int i = 0; i < 4; i++) {
            x.set(4, i, 1);
            x.set(5, i, 20);
        }
        pieces(x, 80, 80, 80);
        pieces(x, 81, -1, 80);
        for (int i = 0; i < 4; i++) {
            x.set(4, i, 99);
        }
        pieces(x, 999, -1, 990);
        pieces(x, 990, 10, 990);
    }

    private static void promise12Pay() {
        LightYearsAreOwed x = new LightYearsAreOwed();
        x.light(0, 0, 10);
        x.light(0, 0, 57);
        x.look(1, 1, 1);
        CHECK.due("12: nothing to pay with", x.pay(1), -3);
        x.set(5, 0, 5);
        x.set(5, 1, 5);
        x.set(5, 3, 2);
        CHECK.due("12: 50 + 5 + 1 + 1", x.pay(1), 4);
        CHECK.due("12: ones left", x.told(0, 5), 3);
        CHECK.due("12: fives left", x.told(1, 5), 4);
        CHECK.due("12: tens left", x.told(2, 5), 0);
        CHECK.due("12: fifties left", x.told(3, 5), 1);
        CHECK.due("12: paid", x.told(1, 7), 57);
        CHECK.due("12: all", x.told(1, 8), 0);
        CHECK.due("12: nothing owed, no pieces", x.pay(1), 0);
        x.look(1, 0, 1);
        CHECK.due("12: 5 + 5", x.pay(1), 2);
        CHECK.due("12: paid in all", x.told(1, 7), 67);
        CHECK.due("12: owes it still, all is less what is paid", x.owes(1, 0, 0), 10);
        CHECK.due("12: looker -1", x.pay(-1), -2);
        CHECK.due("12: looker 5", x.pay(5), -2);
    }

    /** Of ways with as few pieces: most of sort 3, then of 2, then of 1. */
    private static void promise12Ways() {
        LightYearsAreOwed x = new LightYearsAreOwed();
        int[] bright = {10, 8, 6, 4};
        for (int i = 0; i < 4; i++) {
            x.set(4, i, bright[i]);
            x.set(5, i, 5);
        }
        x.light(0, 0, 14);
        x.look(0, 0, 1);
        CHECK.due("12: 10 + 4, not 8 + 6", x.pay(0), 2);
        CHECK.due("12: one of sort 3", x.told(3, 5), 4);
        CHECK.due("12: one of sort 0", x.told(0, 5), 4);
        x.set(5, 3, 0);
        x.look(1, 0, 1);
        CHECK.due("12: 8 + 6", x.pay(1), 2);
        CHECK.due("12: one of sort 2", x.told(2, 5), 4);
        CHECK.due("12: one of sort 1", x.told(1, 5), 4);
        x.set(4, 0, 7);
        x.set(4, 1, 7);
        x.set(4, 2, 1);
        x.look(2, 0, 1);
        CHECK.due("12: 7 + 7 of sort 1", x.pay(2), 2);
        CHECK.due("12: sort 1", x.told(1, 5), 2);
        CHECK.due("12: sort 0", x.told(0, 5), 4);
        x.set(4, 2, 7);
        x.set(4, 3, 7);
        x.set(5, 3, 1);
        x.look(3, 0, 1);
        CHECK.due("12: 7 of sort 3, 7 of sort 2", x.pay(3), 2);
        CHECK.due("12: sort 3", x.told(3, 5), 0);
        CHECK.due("12: sort 2", x.told(2, 5), 3);
        CHECK.due("12: sort 1 stays", x.told(1, 5), 2);
    }

    private static void promise12State() {
        LightYearsAreOwed x = new LightYearsAreOwed();
        x.light(1, 0, 50);
        x.look(0, 0, 511);
        x.force(Told.text(x, "dues 50;offs 0;extras 90;"));
        x.set(4, 3, 99);
        x.set(5, 3, 20);
        x.set(5, 2, 20);
        x.set(5, 1, 1);
        x.set(5, 0, 20);
        CHECK.due("12: owed", x.told(0, 8), 999);
        CHECK.due("12: 999", x.pay(0), 15);
        x.set(5, 3, 20);
        x.set(5, 0, 0);
        x.look(1, 0, 511);
        CHECK.due("12: can't", x.pay(1), -3);
        CHECK.due("12: nothing paid", x.told(1, 7), 0);
        CHECK.due("12: nothing taken", x.told(3, 5), 20);
        x.force(Told.text(x, "dues 50;offs 0;extras 91;"));
        x.set(5, 0, 20);
        CHECK.due("12: owed, 1000", x.told(1, 8), 1000);
        CHECK.due("12: above 999", x.pay(1), -3);
        CHECK.due("12: the one who paid 999 owes one", x.pay(0), 1);
        CHECK.due("12: 1000 paid", x.told(0, 7), 1000);
    }
}
