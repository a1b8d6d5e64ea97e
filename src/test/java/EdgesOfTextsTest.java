import java.util.List;
import java.util.Set;

/** Promises 6 to 8 at their edges: the tape, where a text's fault is, what texts tell. */
public final class EdgesOfTextsTest {
    private static final Check CHECK = new Check("EdgesOfTextsTest");
    private static final Edge EDGE = new Edge(CHECK);
    private static final int BAD = -2, FULL = -4;
    private static final String REST = ";offs 0;extras 0;";

    public static void main(String[] args) {
        feedBytes();
        feedFull();
        feedAfterText();
        textOfNothing();
        textOfAFullTape();
        textFull();
        textAfterAFault();
        everyByte();
        bytesBesideTheLetters();
        numbersOfFourDigits();
        wordsAsLongAsCanBe();
        whatCanStandWhere();
        endsTooEarly();
        fiveOpen();
        whatCloses();
        asManyAsTheTapeHolds();
        wraps();
        whatIsTrue();
        toldBounds();
        namesAtTheirEdges();
        forceBounds();
        CHECK.end();
    }

    private static int fresh(String text) {
        return Told.text(new LightYearsAreOwed(), text);
    }

    private static void text(String text) {
        CHECK.due("7: a text: " + text, fresh(text), 1);
    }

    private static void fault(String text, int place) {
        CHECK.due("7: fault of " + text, fresh(text), -100 - place);
    }

    private static String blanks(int n) {
        return " ".repeat(n);
    }

    private static void feedBytes() {
        EDGE.bounds("6: byte", v -> new LightYearsAreOwed().feed(v), 0, 1, 255, 1, BAD);
        LightYearsAreOwed x = new LightYearsAreOwed();
        x.feed(256);
        x.feed(-1);
        CHECK.due("6: what was refused did not come", x.count(4), 0);
    }

    private static void feedFull() {
        LightYearsAreOwed x = new LightYearsAreOwed();
        String text = "dues 7;offs 0;extras 0;";
        CHECK.due("6: so many", Told.feed(x, text), text.length());
        CHECK.due("6: 159", Told.feed(x, blanks(159 - text.length())), 159);
        CHECK.due("6: the last that has room", x.feed(10), 160);
        CHECK.due("6: full", x.feed('7'), FULL);
        CHECK.due("6: still full", x.feed(32), FULL);
        EDGE.refused("6: BAD ahead of FULL", v -> x.feed(v), BAD, -1, 256);
        CHECK.due("6: 160 bytes", x.count(4), 160);
        CHECK.due("6: the refused 7 is no part of the text", x.text(), 1);
    }

    private static void feedAfterText() {
        LightYearsAreOwed x = new LightYearsAreOwed();
        for (int round = 0; round < 2; round++) {
            CHECK.due("6: full again", Told.feed(x, blanks(160)), 160);
            CHECK.due("6: no room", x.feed(32), FULL);
            CHECK.due("7: ends too early", x.text(), -100 - 160);
            CHECK.due("7: empty then", x.count(4), 0);
        }
        CHECK.due("6: the first again", x.feed(32), 1);
    }

    private static void textOfNothing() {
        LightYearsAreOwed x = new LightYearsAreOwed();
        CHECK.due("7: nothing there yet", x.text(), -100);
        CHECK.due("7: no text by it", x.count(3), 1);
        CHECK.due("7: and again", x.text(), -100);
        fault(" ", 1);
        fault("\n", 1);
        fault(blanks(9), 9);
    }

    /** The last byte of 160: the end of a text, a fault, a piece of a token that ends too early. */
    private static void textOfAFullTape() {
        String text = "dues 7;offs 0;extras 0;";
        text(blanks(160 - text.length()) + text);
        text(text + blanks(160 - text.length()));
        fault(blanks(159) + "@", 159);
        fault(text + blanks(159 - text.length()) + ";", 159);
        fault(blanks(159) + "d", 159);
        fault(blanks(156) + "dues", 160);
        fault("dues 1" + blanks(150) + "1234", 156);
        fault("dues" + blanks(155) + "1", 160);
        fault("dues" + blanks(151) + "12345", 155);
        fault("dues " + "-7+".repeat(51) + "77", 160);
    }

    private static LightYearsAreOwed withTexts(int n) {
        LightYearsAreOwed x = new LightYearsAreOwed();
        for (int i = 1; i < n; i++) {
            Told.text(x, "dues 1" + i + REST);
        }
        x.light(0, 0, 5);
        return x;
    }

    private static void textFull() {
        LightYearsAreOwed x = withTexts(5);
        CHECK.due("7: the last that has room", Told.text(x, "dues 15" + REST), 5);
        CHECK.due("7: full, nothing fed", x.text(), FULL);
        Told.feed(x, "@");
        CHECK.due("7: full ahead of a fault", x.text(), FULL);
        CHECK.due("7: the tape stays", x.count(4), 1);
        Told.feed(x, "dues 1" + REST);
        CHECK.due("7: still full", x.text(), FULL);
        CHECK.due("7: the tape still stays", x.feed(32), 1 + 23 + 1);
        CHECK.due("7: six texts", x.count(3), 6);
        for (int i = 0; i < 6; i++) {
            x.force(i);
            CHECK.due("7: each text is its own, " + i, x.owes(0, 0, 10), i == 0 ? 5 : 10 + i);
        }
        LightYearsAreOwed y = withTexts(6);
        CHECK.due("7: full ahead of BAD bytes that never came", y.feed(256) + y.text(), BAD + FULL);
        LightYearsAreOwed z = withTexts(6);
        Told.feed(z, blanks(160));
        CHECK.due("7: text full, tape full", z.text() + z.feed(32), 2 * FULL);
    }

    /** A fault takes none of the six places, and leaves the rule and its texts as they are. */
    private static void textAfterAFault() {
        LightYearsAreOwed x = withTexts(2);
        x.force(1);
        for (int i = 0; i < 8; i++) {
            CHECK.due("7: a fault", Told.text(x, "dues 9;@"), -107);
        }
        CHECK.due("7: two texts", x.count(3), 2);
        CHECK.due("7: the rule stays", x.count(5), 1);
        CHECK.due("7: it tells as before", x.owes(0, 0, 10), 11);
        CHECK.due("8: no text by a fault", x.force(2), BAD);
        CHECK.due("7: the next is 2", Told.text(x, "dues 9" + REST), 2);
    }

    /** Every byte behind a ONE, ahead of a ; that may stand or not. */
    private static void everyByte() {
        for (int b = 0; b < 256; b++) {
            char c = (char) b;
            String text = "dues 1" + c + REST;
            if (c == 32 || c == 10 || c >= '0' && c <= '9') {
                text(text);
            } else {
                fault(text, "+-*<=;".indexOf(c) >= 0 ? 7 : 6);
            }
        }
    }

    /** "WORDS (a .. z)", "NUMBERS", "blanks (32, 10)": the bytes just beside them begin none. */
    private static void bytesBesideTheLetters() {
        int[] beside = {'a' - 1, 'z' + 1, 'A', 'Z', '0' - 1, '9' + 1, 31, 33, 9, 11, 13, 0, 127,
            128, 160, 255};
        for (int b : beside) {
            char c = (char) b;
            fault(c + "dues 1" + REST, 0);
            fault("dues" + c + "1" + REST, 4);
            fault("dues years" + c + REST, 10);
            fault("dues 12" + c + REST, 7);
            fault("dues 1" + REST + c, 23);
        }
        fault("dues a" + REST, 5);
        fault("dues z" + REST, 5);
        text("dues 0+9" + REST);
    }

    private static void numbersOfFourDigits() {
        String[] fit = {"0", "9", "00", "99", "9999", "0000", "0009", "1000"};
        for (String number : fit) {
            text("dues " + number + REST);
        }
        String[] tooLong = {"00000", "10000", "99999", "00001", "123456", "9".repeat(60)};
        for (String number : tooLong) {
            fault("dues " + number + REST, 5);
            fault("dues 1+" + number, 7);
            fault("dues 1 " + number, 7);
            fault(number, 0);
        }
        fault("dues 1234 5" + REST, 10);
        fault("dues 12\n34" + REST, 8);
        CHECK.due("7: 9999 is 9999", worth("9999-9900"), 99);
        CHECK.due("7: 0009 is 9", worth("0009"), 9);
    }

    private static void wordsAsLongAsCanBe() {
        String[] names = {"years", "nights", "number", "night", "cloudy", "lights"};
        for (String name : names) {
            text("dues " + name + REST);
            text("dues " + name + "*1" + REST);
            text("dues 1*" + name + REST);
            fault("dues " + name + "x" + REST, 5);
            fault("dues x" + name + REST, 5);
            fault("dues " + name + "a" + REST, 5);
            fault("dues " + name + "dues" + REST, 5);
            fault("dues " + name.substring(1) + REST, 5);
            fault("dues " + name.charAt(0) + " " + name.substring(1) + REST, 5);
        }
        text("dues nights" + REST);
        fault("dues nightss" + REST, 5);
        fault("dues nigh" + REST, 5);
        fault("dues year" + REST, 5);
        fault("due 1" + REST, 0);
        fault("duess 1" + REST, 0);
        fault("dues 1;off 0", 7);
        fault("dues 1;offss 0", 7);
        fault("dues 1;offs 0;extra 0", 14);
        fault("dues 1;offs 0;extrass 0", 14);
        fault("dues 1 orr 1", 7);
        fault("dues 1 andy 1", 7);
        fault("dues nott 1", 5);
        fault("dues yearsor years" + REST, 5);
        fault("dues years oryears" + REST, 11);
        fault("dues noty" + REST, 5);
        fault("duesyears" + REST, 0);
        fault("a".repeat(160), 0);
        text("dues years or years and not years" + REST);
        text("dues 1or 2and 3" + REST);
        text("dues(1)or(2)and(3)" + REST);
        text("dues not(1)" + REST);
        text("dues-1;offs-1;extras-1;");
    }

    private static final List<String> TOKENS = List.of("years", "nights", "number", "night",
            "cloudy", "lights", "0", "9999", "dues", "offs", "extras", "or", "and", "not",
            "(", ")", ";", "+", "-", "*", "<", "=", "x", "12345", "@");
    private static final Set<String> ONE = Set.of("years", "nights", "number", "night", "cloudy",
            "lights", "0", "9999", "(", "-");
    private static final Set<String> EITHER = Set.of("years", "nights", "number", "night",
            "cloudy", "lights", "0", "9999", "(", "-", "not");
    private static final Set<String> BEHIND = Set.of("+", "-", "*", "<", "=", "or", "and", ";");
    private static final Set<String> COMPARED = Set.of("+", "-", "*", "or", "and", ";");
    private static final Set<String> OPENED = Set.of("+", "-", "*", "<", "=", "or", "and", ")");
    private static final Set<String> COMPARED_OPENED = Set.of("+", "-", "*", "or", "and", ")");

    /** Of all tokens just these can stand behind a beginning; the others are a fault there. */
    private static void behind(String beginning, Set<String> can) {
        for (String token : TOKENS) {
            String text = beginning + " " + token;
            if (token.equals(";") && can.contains(";") && beginning.contains("extras")) {
                text(text);
            } else {
                fault(text, can.contains(token) ? text.length() : beginning.length() + 1);
            }
        }
    }

    private static void whatCanStandWhere() {
        behind("", Set.of("dues"));
        for (String key : new String[] {"dues", "dues 1;offs", "dues 1;offs 1;extras"}) {
            behind(key, EITHER);
            behind(key + " 1", BEHIND);
            behind(key + " years", BEHIND);
            behind(key + " (", EITHER);
            behind(key + " (1", OPENED);
            behind(key + " (1<1", COMPARED_OPENED);
            behind(key + " (1)", BEHIND);
            behind(key + " ((1)", OPENED);
            behind(key + " not", EITHER);
            behind(key + " not 1", BEHIND);
            behind(key + " not 1<1", COMPARED);
            behind(key + " -", ONE);
            behind(key + " -1", BEHIND);
            behind(key + " 1+", ONE);
            behind(key + " 1-", ONE);
            behind(key + " 1*", ONE);
            behind(key + " 1<", ONE);
            behind(key + " 1=", ONE);
            behind(key + " 1<1", COMPARED);
            behind(key + " 1=1", COMPARED);
            behind(key + " 1<1+1", COMPARED);
            behind(key + " 1<(1<1)", COMPARED);
            behind(key + " 1<1 and 1", BEHIND);
            behind(key + " 1<1 or 1", BEHIND);
            behind(key + " 1 or", EITHER);
            behind(key + " 1 and", EITHER);
            behind(key + " 1 or 1", BEHIND);
            behind(key + " 1 and 1", BEHIND);
        }
        behind("dues 1;", Set.of("offs"));
        behind("dues 1;offs 1;", Set.of("extras"));
        for (String token : TOKENS) {
            fault("dues 1;offs 1;extras 1; " + token, 24);
        }
    }

    /** Cut behind any token, a text ends too early: its fault is its size, blanks with it. */
    private static void endsTooEarly() {
        String[] tokens = {"dues", "(", "years", "+", "1", ")", "*", "-", "2", "<", "9999", "or",
            "not", "night", "=", "3", "and", "4", ";", "offs", "-", "(", "number", ")", ";",
            "extras", "not", "lights", ";"};
        StringBuilder so = new StringBuilder();
        for (String token : tokens) {
            fault(so.toString(), so.length());
            fault(so + " ", so.length() + 1);
            fault(so + "\n\n ", so.length() + 3);
            so.append(so.length() > 0 ? " " : "").append(token);
        }
        text(so.toString());
        text(so + " \n");
    }

    /** Puts ( not - in every order that can stand; five may be open, the sixth is the fault. */
    private static void fiveOpen() {
        open("dues ", 0, "", false);
        open("dues 1 and 1 < ", 0, "", true);
    }

    private static void open(String begun, int depth, String closing, boolean oneAlone) {
        if (depth > 5) {
            return;
        }
        text(begun + "7" + closing + REST);
        for (String opener : new String[] {"(", "-", "not "}) {
            if (oneAlone && opener.equals("not ")) {
                continue;
            }
            String close = opener.equals("(") ? ")" : "";
            if (depth == 5) {
                fault(begun + opener + "7" + close + closing + REST, begun.length());
            }
            open(begun + opener, depth + 1, close + closing, opener.equals("-"));
        }
    }

    /** "a ( till its ), not and - till what they belong to ends". */
    private static void whatCloses() {
        String five = "(((((7)))))";
        String four = "((((7))))";
        text("dues " + five + "+" + five + "*" + five + REST);
        text("dues -7+" + five + REST);
        text("dues -7*" + five + REST);
        text("dues -(7)-" + five + REST);
        text("dues -7<" + five + REST);
        text("dues not 7 and " + five + REST);
        text("dues not 7 or " + five + REST);
        text("dues not 7<7 or " + five + REST);
        text("dues not (not 7) and " + five + REST);
        text("dues not 7<" + four + REST);
        fault("dues not 7<" + five + REST, 15);
        fault("dues not 7+" + five + REST, 15);
        fault("dues not 7*" + five + REST, 15);
        text("dues not -7+" + four + REST);
        fault("dues not -7+" + five + REST, 16);
        text("dues (7)+" + five + REST);
        text("dues (" + four + "+" + four + ")" + REST);
        fault("dues (" + four + "+" + five + ")" + REST, 17 + 3);
        text("dues (((((7-7)))))" + REST);
        fault("dues (((((7--7)))))" + REST, 12);
        fault("dues (((((7*-7)))))" + REST, 12);
        fault("dues (((((not 7)))))" + REST, 10);
        fault("dues (((((7 or not 7)))))" + REST, 15);
        text("dues " + five + ";offs " + five + ";extras " + five + ";");
        text("dues -----7;offs -----7;extras not not not not not 7;");
        fault("dues -----7;offs 0;extras not not not not not not 7;", 46);
    }

    /** What dues tell of a light of number 3 and 50 years that nobody looked at, for night 0. */
    private static int worth(String expression) {
        LightYearsAreOwed x = Told.by(expression, "0", "0");
        x.light(0, 3, 50);
        return x.owes(0, 0, 10);
    }

    /** A text has no bound of its own: as many signs in a row as 160 bytes hold. */
    private static void asManyAsTheTapeHolds() {
        CHECK.due("7: so many +", worth("1" + "+1".repeat(68)), 69);
        CHECK.due("7: so many -", worth("99" + "-1".repeat(68)), 31);
        CHECK.due("7: so many *", worth("1*".repeat(68) + "7"), 7);
        CHECK.due("7: so many or, the last true", worth("0or".repeat(45) + "5"), 1);
        CHECK.due("7: so many or, none true", worth("0or".repeat(45) + "0"), 0);
        CHECK.due("7: so many and, all true", worth("2and".repeat(34) + "5"), 1);
        CHECK.due("7: so many and, the last not", worth("2and".repeat(34) + "0"), 0);
        CHECK.due("7: so many (", worth("(((((1)))))" + "+(((((1)))))".repeat(10)), 11);
        text("dues 1;offs 1;extras " + "9*".repeat(68) + "9;");
        fault("dues 1;offs 1;extras " + "9*".repeat(69) + "9", 160);
    }

    private static void isTrue(String expression) {
        CHECK.due("7: true: " + expression, worth("(" + expression + ")*7"), 7);
    }

    /** "An E is an int (32 bits, wrapping)": the least int is 8192 * 8192 * 32. */
    private static void wraps() {
        String least = "8192*8192*32";
        isTrue(least + "<0");
        isTrue("-(" + least + ")<0");
        isTrue("-(" + least + ")=" + least);
        isTrue("0<" + least + "-1");
        isTrue("8191+" + least + "-8192=" + least + "-1");
        isTrue(least + "-1+1<0");
        isTrue("0-" + least + "<0");
        isTrue("0-1-" + least + "=" + least + "-1");
        isTrue("8192*8192*64=0");
        isTrue("8192*8192*16<" + least + "-1");
        isTrue("8192*8192*48=-(8192*8192*16)");
        isTrue("9999*9999*9999=-(9999*9999*-9999)");
        isTrue(least + "<1");
        isTrue(least + "<" + least + "-1");
        isTrue("-(" + least + "-1)=" + least + "+1");
        isTrue("not " + least + "-1<" + least);
        CHECK.due("7: 9999 * 9999 * 22 wraps below 0", worth("9999*9999*22"), 0);
        CHECK.due("7: 9999 * 9999 * 21 does not", worth("9999*9999*21"), 99);
        CHECK.due("7: 9999 * 9999 * 43 wraps to above 0", worth("9999*9999*43"), 99);
        CHECK.due("7: the least int wraps to 5", worth(least + "+" + least + "+5"), 5);
    }

    /** "of or, and, not, <, = 1 or 0 (what is not 0 is true)". */
    private static void whatIsTrue() {
        String[][] want = {{"not 0", "1"}, {"not 1", "0"}, {"not -1", "0"}, {"not 2", "0"},
            {"not 8192*8192*32", "0"}, {"not 8192*8192*64", "1"}, {"0 or 0", "0"},
            {"0 or 2", "1"}, {"2 or 0", "1"}, {"-1 or 0", "1"}, {"2 or 3", "1"},
            {"0 and 0", "0"}, {"0 and 2", "0"}, {"2 and 0", "0"}, {"2 and 4", "1"},
            {"-1 and -2", "1"}, {"1 and 2 and 3", "1"}, {"1 and 2 and 0", "0"},
            {"0 or 0 or 4", "1"}, {"0<0", "0"}, {"0<1", "1"}, {"1<0", "0"}, {"-1<0", "1"},
            {"0=0", "1"}, {"0=1", "0"}, {"-1=1", "0"}, {"1=-1", "0"}, {"not 0=0", "0"},
            {"not not 5", "1"}, {"1 or 0 and 0", "1"}, {"0 and 0 or 1", "1"}};
        for (String[] w : want) {
            CHECK.due("7: worth of " + w[0], worth(w[0]), Integer.parseInt(w[1]));
        }
    }

    /** What one looks at in three nights comes to 3 dues and extras less offs. */
    private static int owed(String dues, String offs, String extras) {
        LightYearsAreOwed x = Told.by(dues, offs, extras);
        x.light(0, 3, 50);
        x.look(0, 0, 7);
        return x.owes(0, 0, 0);
    }

    /** "dues, offs, extras (0 .. 99, else the bound)". */
    private static void toldBounds() {
        String[] told = {"0", "1", "98", "99", "100", "101", "9999", "-1", "-99", "-9999",
            "8192*8192*32", "8192*8192*32-1", "8192*8192*64"};
        int[] is = {0, 1, 98, 99, 99, 99, 99, 0, 0, 0, 0, 99, 0};
        for (int i = 0; i < told.length; i++) {
            CHECK.due("7: dues " + told[i], owed(told[i], "0", "0"), 3 * is[i]);
            CHECK.due("7: offs " + told[i], owed("99", told[i], "0"), 297 - is[i]);
            CHECK.due("7: extras " + told[i], owed("0", "0", told[i]), is[i]);
        }
    }

    /** The least and the most that each name can be. */
    private static void namesAtTheirEdges() {
        LightYearsAreOwed x = new LightYearsAreOwed();
        x.force(Told.text(x, "dues 1+nights+20*cloudy;offs 0;extras 0;"));
        int lights = Told.text(x, "dues 1+lights;offs night;extras night;");
        int night = Told.text(x, "dues night;offs 50+2*night;extras 60;");
        int extras = Told.text(x, "dues night;offs 50;extras 60-3*night;");
        x.light(0, 0, 1);
        CHECK.due("7: nights 0, cloudy 0", x.owes(0, 0, 10), 1);
        x.look(0, 0, 4095);
        CHECK.due("7: nights 12", x.owes(0, 0, 10), 13);
        x.set(0, 0, 4094);
        CHECK.due("7: nights 1, cloudy 11 (99 the bound)", x.owes(0, 0, 10), 99);
        x.set(0, 0, 2);
        CHECK.due("7: nights 11, cloudy 1", x.owes(0, 0, 10), 32);
        x.set(0, 0, 0);
        x.force(night);
        for (int t = 0; t < 12; t++) {
            CHECK.due("7: night " + t, x.owes(0, 0, 10 + t), t);
        }
        CHECK.due("7: of offs night 0", x.owes(0, 0, 0), 66 + 60 - 50);
        x.force(extras);
        CHECK.due("7: of extras night 0", x.owes(0, 0, 0), 66 + 60 - 50);
        x.look(0, 0, 2048 + 1024 + 512);
        CHECK.due("7: also without looking in night 0", x.owes(0, 0, 0), 30 + 60 - 50);
        x.force(night);
        CHECK.due("7: of offs, too", x.owes(0, 0, 0), 30 + 60 - 50);
        x.force(lights);
        CHECK.due("7: lights 1", x.owes(0, 0, 10), 2);
        CHECK.due("7: lights 0, of another", x.owes(1, 0, 10), 1);
        for (int i = 1; i < 6; i++) {
            x.light(0, 0, 1);
            x.look(0, i, 1);
        }
        CHECK.due("7: lights 6", x.owes(0, 0, 10), 7);
        x.set(0, 0, 1);
        CHECK.due("7: lights 1, the others under a cloud", x.owes(0, 0, 10), 2);
        x.set(0, 0, 4095);
        CHECK.due("7: lights 0, all under clouds", x.owes(0, 0, 10), 1);
    }

    private static void forceBounds() {
        EDGE.bounds("8: of one text", v -> withTexts(1).force(v), 0, 0, 0, 0, BAD);
        for (int n = 2; n <= 6; n++) {
            LightYearsAreOwed x = withTexts(n);
            int last = n - 1;
            CHECK.due("8: the last of " + n, x.force(last), 0);
            CHECK.due("8: it is the rule", x.count(5), last);
            EDGE.refused("8: of " + n, v -> x.force(v), BAD, -1, n, 6,
                    Integer.MIN_VALUE, Integer.MAX_VALUE);
            CHECK.due("8: refused, it stays the rule", x.owes(0, 0, 10), 10 + last);
            CHECK.due("8: the first", x.force(0), last);
            CHECK.due("8: again the first", x.force(0), 0);
        }
    }
}
