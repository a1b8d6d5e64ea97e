/** Promises 6 to 8: feed, text, force; what a text means and where its fault is. */
public final class TextsTest {
    private static final Check CHECK = new Check("TextsTest");

    public static void main(String[] args) {
        promise6Feed();
        promise7Text();
        promise7TextFull();
        promise7Faults();
        promise7Open();
        promise7Values();
        promise7AfterFaults();
        promise7Names();
        promise7Bounds();
        promise8Force();
        CHECK.end();
    }

    private static void promise6Feed() {
        LightYearsAreOwed x = new LightYearsAreOwed();
        CHECK.due("6: -1", x.feed(-1), -2);
        CHECK.due("6: 256", x.feed(256), -2);
        for (int i = 1; i <= 160; i++) {
            CHECK.due("6: byte " + i, x.feed(i == 1 ? 0 : i == 2 ? 255 : 32), i);
        }
        CHECK.due("6: full", x.feed(32), -4);
        CHECK.due("6: BAD is ahead of full", x.feed(256), -2);
        CHECK.due("6: bytes", x.count(4), 160);
        CHECK.due("6: byte 0 begins no token", x.text(), -100);
        CHECK.due("6: empty then", x.count(4), 0);
        CHECK.due("6: begins again", x.feed(32), 1);
    }

    private static void promise7Text() {
        LightYearsAreOwed x = new LightYearsAreOwed();
        CHECK.due("7: an empty tape", x.text(), -100);
        CHECK.due("7: a text", Told.text(x, "dues years ; offs 0 ; extras 3 ;"), 1);
        CHECK.due("7: the tape is empty", x.count(4), 0);
        CHECK.due("7: without blanks", Told.text(x, "dues(1);offs(2);extras-3;"), 2);
        CHECK.due("7: with blanks", Told.text(x, "\n dues\n\n1 ; \noffs 2 ;extras 3 ;\n "), 3);
        CHECK.due("7: a fault", Told.text(x, "dues 1; offs 2; extras 3"), -124);
        CHECK.due("7: the tape is empty by a fault, too", x.count(4), 0);
        CHECK.due("7: a fault makes no text", x.count(3), 4);
        StringBuilder longest = new StringBuilder("dues 1");
        while (longest.length() < 160 - "-1;offs 0;extras 0;".length() - 1) {
            longest.append("+1");
        }
        longest.append("-1;offs 0;extras 0;");
        while (longest.length() < 160) {
            longest.append(' ');
        }
        CHECK.due("7: 160 bytes", Told.text(x, longest.toString()), 4);
        x.light(0, 0, 1);
        x.force(4);
        CHECK.due("7: 160 bytes' worth", x.owes(0, 0, 10), 1 + 67 - 1);
    }

    private static void promise7TextFull() {
        LightYearsAreOwed x = new LightYearsAreOwed();
        for (int i = 1; i < 6; i++) {
            CHECK.due("7: text " + i, Told.text(x, "dues " + i + ";offs 0;extras 0;"), i);
        }
        CHECK.due("7: six texts", x.count(3), 6);
        CHECK.due("7: full with an empty tape", x.text(), -4);
        Told.feed(x, "dues @");
        CHECK.due("7: full is ahead of a fault", x.text(), -4);
        CHECK.due("7: the tape stays", x.count(4), 6);
        x.light(0, 0, 1);
        for (int i = 1; i < 6; i++) {
            x.force(i);
            CHECK.due("7: each text is its own", x.owes(0, 0, 10), i);
        }
    }

    private static void fault(String text, int place) {
        LightYearsAreOwed x = new LightYearsAreOwed();
        CHECK.due("7: fault of " + text, Told.text(x, text), -100 - place);
        CHECK.due("7: no text by " + text, x.count(3), 1);
    }

    private static void promise7Faults() {
        fault("   ", 3);
        fault("offs 1;", 0);
        fault("dues", 4);
        fault("dues ", 5);
        fault("dues ;", 5);
        fault("dues 1 offs 2;", 7);
        fault("dues 1;extras 2;", 7);
        fault("dues 1;offs 2;offs 3;", 14);
        fault("dues 1;offs 2;extras 3;;", 23);
        fault("dues 1;offs 2;extras 3; dues", 24);
        fault("dues 1;offs 2;extras 3; @", 24);
        fault("dues 1;offs 2;extras", 20);
        fault("dues 1;offs 2;extras 3; 7", 24);
        fault("dues 1;offs 2;extras 3; years", 24);
        fault("dues yearsx;", 5);
        fault("dues yearsz;", 5);
        fault("dues yearsa;", 5);
        fault("dues year;", 5);
        fault("dues Years;", 5);
        fault("dues yeArs;", 5);
        fault("duesyears;", 0);
        fault("dues 12345;", 5);
        fault("dues 00001;", 5);
        fault("dues 1234 5;", 10);
        fault("dues 1 12345;", 7);
        fault("dues 3years;", 6);
        fault("dues years3;", 10);
        fault("dues 1 > 2;", 7);
        fault("dues\t1;", 4);
        fault("dues\r1;", 4);
        fault("dues 1/2;", 6);
        fault("dues " + (char) 233 + ";", 5);
        fault("dues `;", 5);
        fault("dues {;", 5);
        fault("dues 1:2;", 6);
        fault("dues dues;", 5);
        fault("dues or 1;", 5);
        fault("dues 1 or;", 9);
        fault("dues 1 and;", 10);
        fault("dues 1 or or 2;", 10);
        fault("dues 1 < 2 < 3;", 11);
        fault("dues 1 = 2 < 3;", 11);
        fault("dues 1 < 2 = 3;", 11);
        fault("dues 1 + not 2;", 9);
        fault("dues 1 < not 2;", 9);
        fault("dues - not 2;", 7);
        fault("dues 1 not 2;", 7);
        fault("dues + 1;", 5);
        fault("dues * 1;", 5);
        fault("dues 1 * + 1;", 9);
        fault("dues ();", 6);
        fault("dues (1;", 7);
        fault("dues (1", 7);
        fault("dues (1  ", 9);
        fault("dues 1);", 6);
        fault("dues (1 2);", 8);
        fault("dues 1 2;", 7);
        fault("dues 1 (2);", 7);
        fault("dues not;", 8);
        fault("dues -;", 6);
        fault("dues 1 <;", 8);
        fault("dues 1 =< 2;", 8);
        fault("dues 1;@ffs", 7);
    }

    private static void promise7Open() {
        fault("dues ((((((1))))));offs 0;extras 0;", 10);
        fault("dues ------1;offs 0;extras 0;", 10);
        fault("dues not not not not not not 1;", 25);
        fault("dues not-(not-(1));", 14);
        fault("dues not 1<((((1))))and not 1<(((((1)))));", 34);
    }

    /** What dues tell of a light 0 of number 3 and years 50, seen by no one, for night 0. */
    private static void worth(String expression, int want) {
        LightYearsAreOwed x = new LightYearsAreOwed();
        x.light(0, 3, 50);
        int text = Told.text(x, "dues " + expression + ";offs 0;extras 0;");
        CHECK.due("7: a text by " + expression, text, 1);
        x.force(text);
        CHECK.due("7: worth of " + expression, x.owes(0, 0, 10), want);
    }

    private static void promise7Values() {
        worth("7", 7);
        worth("0007", 7);
        worth("9999-9950", 49);
        worth("years", 50);
        worth("number", 3);
        worth("2+3*4", 14);
        worth("(2+3)*4", 20);
        worth("20-3-4", 13);
        worth("20-(3-4)", 21);
        worth("2*3*4", 24);
        worth("--5", 5);
        worth("-5+9", 4);
        worth("-5*-5", 25);
        worth("-(2-9)", 7);
        worth("9--3", 12);
        worth("1<2", 1);
        worth("2<2", 0);
        worth("3<2", 0);
        worth("-1<0", 1);
        worth("2=2", 1);
        worth("2=3", 0);
        worth("1+1=2", 1);
        worth("1+(1=2)", 1);
        worth("3*(1<2)+4*(2<1)+5", 8);
        worth("4 and 8", 1);
        worth("4 and 0", 0);
        worth("0 or 8", 1);
        worth("0 or 0", 0);
        worth("-1 or 0", 1);
        worth("0 or 0 or 7", 1);
        worth("3 and 2 and 0", 0);
        worth("1 or 1 and 0", 1);
        worth("(1 or 1) and 0", 0);
        worth("0 and 1 or 1", 1);
        worth("not 0", 1);
        worth("not 7", 0);
        worth("not not 7", 1);
        worth("not 1 < 2", 0);
        worth("not 2 = 3", 1);
        worth("not 1 or 1", 1);
        worth("not 0 and 0", 0);
        worth("(not 0) + 5", 6);
        worth("(not 1 = 2) * 9", 9);
        worth("5 + (6 or 0)", 6);
        worth("9999*9999*9999 < 0", 1);
        worth("9999*9999*22 < 0", 1);
        worth("(8192*8192*64=0) + (8192*8192*32<0) + 1", 3);
        worth("-(8192*8192*32)<0", 1);
        worth("8192*8192*32-1<0", 0);
        worth("(((((1)))))+(((((2)))))", 3);
        worth("-----5+9", 4);
        worth("not not not not not 0 and not not not not not 0", 1);
        worth("not not not not - 5", 1);
        worth("----(5)", 5);
        worth("0or 0and 0<0+0*(0or 0and 0<0+0*(0or 0and 0<0+0*(0or 0and 0<0+1*(0or 1and 0<0+1*(9)))))", 0);
        worth("1or 1and 1<1+1*(1or 1and 1<1+1*(1or 1and 1<1+1*(1or 1and 1<1+1*(1or 1and 1<1+1*(9)))))", 1);
        worth("0or 1and 1<1+1*(0or 1and 1<1+1*(0or 1and 1<1+1*(0or 1and 1<1+1*(0or 1and 1<1+1*(9)))))", 1);
    }

    private static void promise7AfterFaults() {
        LightYearsAreOwed x = new LightYearsAreOwed();
        String tooLong = "dues 1+1+1+1+1+1+1+1+1+1+1+1+1+1+1+1+1+1+1+1+1+1+1+1+1+1+1+1+1+1+1+1+1+1+1+";
        for (int i = 0; i < 5; i++) {
            CHECK.due("7: ends too early", Told.text(x, tooLong), -100 - tooLong.length());
        }
        CHECK.due("7: a text after faults", Told.text(x, "dues 3+4;offs 1+1;extras 5;"), 1);
        x.light(0, 0, 1);
        x.look(0, 0, 7);
        x.force(1);
        CHECK.due("7: nothing of them is left", x.owes(0, 0, 0), 21 + 5 - 2);
    }

    private static void promise7Names() {
        LightYearsAreOwed x = new LightYearsAreOwed();
        int night = Told.text(x, "dues night+1;offs 2*night+5;extras night+40;");
        int nights = Told.text(x, "dues nights;offs nights;extras 10*nights;");
        int cloudy = Told.text(x, "dues 10+cloudy;offs cloudy;extras 0;");
        int lights = Told.text(x, "dues 10*lights;offs lights;extras number;");
        x.light(0, 8, 5);
        x.light(0, 9, 5);
        x.light(0, 9, 5);
        x.look(2, 0, 1 | 2 | 16 | 2048);
        x.look(2, 1, 64);
        x.set(0, 0, 64 | 2048 | 4);
        x.force(night);
        CHECK.due("7: night 0", x.owes(2, 0, 10), 1);
        CHECK.due("7: night 11, under a cloud", x.owes(2, 0, 21), 12);
        CHECK.due("7: the night is 0 for offs and extras", x.owes(2, 0, 0), 1 + 2 + 5 + 40 - 5);
        x.force(nights);
        CHECK.due("7: nights that count", x.owes(2, 0, 10), 3);
        CHECK.due("7: nights of another", x.owes(2, 1, 10), 0);
        CHECK.due("7: nights in offs, extras", x.owes(2, 0, 0), 9 + 30 - 3);
        x.force(cloudy);
        CHECK.due("7: cloudy", x.owes(2, 0, 10), 13);
        CHECK.due("7: cloudy in offs", x.owes(2, 0, 0), 39 - 3);
        x.force(lights);
        CHECK.due("7: lights seen in nights that count", x.owes(2, 0, 10), 10);
        CHECK.due("7: lights, number", x.owes(2, 0, 0), 30 + 8 - 1);
        x.look(2, 2, 1);
        CHECK.due("7: one more light", x.owes(2, 0, 10), 20);
        CHECK.due("7: another looker's lights", x.owes(1, 0, 10), 0);
    }

    private static void promise7Bounds() {
        LightYearsAreOwed x = new LightYearsAreOwed();
        int high = Told.text(x, "dues 9999;offs 9999;extras 9999;");
        int low = Told.text(x, "dues -1;offs -9999;extras -1;");
        int off = Told.text(x, "dues 60;offs 9999;extras 9999;");
        x.light(0, 0, 5);
        x.look(0, 0, 7);
        x.force(high);
        CHECK.due("7: dues 99 at most", x.owes(0, 0, 10), 99);
        CHECK.due("7: offs and extras 99 at most", x.owes(0, 0, 0), 297);
        x.force(low);
        CHECK.due("7: dues 0 at least", x.owes(0, 0, 10), 0);
        CHECK.due("7: offs and extras 0 at least", x.owes(0, 0, 0), 0);
        x.force(off);
        x.look(0, 0, 1);
        CHECK.due("7: owes 0 at least", x.owes(0, 0, 0), 0);
        x.look(0, 0, 3);
        CHECK.due("7: offs 99", x.owes(0, 0, 0), 120 - 99);
    }

    private static void promise8Force() {
        LightYearsAreOwed x = new LightYearsAreOwed();
        x.light(0, 0, 10);
        x.look(0, 0, 1);
        CHECK.due("8: no text 1", x.force(1), -2);
        CHECK.due("8: -1", x.force(-1), -2);
        CHECK.due("8: the rule again", x.force(0), 0);
        Told.text(x, "dues 20;offs 0;extras 0;");
        CHECK.due("8: a text is not yet the rule", x.owes(0, 0, 0), 10);
        CHECK.due("8: the rule was", x.force(1), 0);
        CHECK.due("8: it is the rule", x.owes(0, 0, 0), 20);
        CHECK.due("8: told by count", x.count(5), 1);
        CHECK.due("8: no text 2", x.force(2), -2);
        CHECK.due("8: it stays the rule", x.force(0), 1);
        CHECK.due("8: the first again", x.owes(0, 0, 0), 10);
        CHECK.due("8: far off", x.force(Integer.MAX_VALUE), -2);
    }
}
