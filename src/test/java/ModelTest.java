import java.util.Random;

/** Runs of drawn calls on the program and on the model: both answer alike. */
public final class ModelTest {
    private static final int RUNS = 1500;
    private static final int CALLS = 512;
    /** No step makes more calls, but for a text, which is fed as long as there are some left. */
    private static final int CALLS_OF_A_STEP = 25;
    private static final String[] NAMES =
            {"years", "nights", "number", "night", "cloudy", "lights"};
    private static final String[] PIECES_OF_TEXT = {"years", "nights", "number", "night", "cloudy",
        "lights", "dues", "offs", "extras", "or", "and", "not", "(", ")", ";", "+", "-", "*", "<",
        "=", "0", "7", "99", "9999", "12345", "x", "yearsx", "@", "A", "\t", "{"};

    private final Check check = new Check("ModelTest");
    private Random random = new Random(0);
    private LightYearsAreOwed x = new LightYearsAreOwed();
    private Model m = new Model();
    private int calls;
    private int run;

    public static void main(String[] args) {
        ModelTest test = new ModelTest();
        for (int run = 0; run < RUNS && !test.check.failed(); run++) {
            test.run(run);
        }
        test.check.end();
    }

    private void run(int number) {
        run = number;
        random = new Random(number);
        x = new LightYearsAreOwed();
        m = new Model();
        calls = 0;
        while (calls < CALLS - CALLS_OF_A_STEP && !check.failed()) {
            step();
        }
        while (calls < CALLS && !check.failed()) {
            stepLook();
        }
        check.isTrue("an object is used for no more than its calls", calls <= CALLS);
    }

    private void due(String call, long got, long want) {
        calls++;
        check.due("run " + run + ", call " + calls + ": " + call, got, want);
    }

    /** Mostly from 0 to most, at times just beside, at times far away. */
    private int upTo(int most) {
        int way = random.nextInt(80);
        if (way == 0) {
            return -1;
        }
        if (way == 1) {
            return most + 1;
        }
        if (way == 2) {
            int[] far = {Integer.MIN_VALUE, Integer.MAX_VALUE, -2, 100, 1 << 16, -14};
            return far[random.nextInt(far.length)];
        }
        if (way == 3) {
            return most;
        }
        return random.nextInt(most + 1);
    }

    private int light() {
        return upTo(Math.max(m.now.lights.size() - 1, 0));
    }

    private int nights() {
        return switch (random.nextInt(4)) {
            case 0 -> upTo(4095);
            case 1 -> random.nextInt(4096) & random.nextInt(4096);
            case 2 -> 1 << random.nextInt(12);
            default -> random.nextInt(4096) & random.nextInt(4096) & random.nextInt(4096);
        };
    }

    private String expression(int depth) {
        int way = random.nextInt(depth <= 0 ? 2 : 11);
        switch (way) {
            case 0:
                return Integer.toString(random.nextInt(random.nextInt(12) == 0 ? 10000 : 12));
            case 1:
            case 2:
                return NAMES[random.nextInt(NAMES.length)];
            case 3:
                return "(" + expression(depth - 1) + ")";
            case 4:
                return "-" + expression(depth - 1);
            case 5:
                return "(not " + expression(depth - 1) + ")";
            default:
                String[] signs = {"+", "-", "*", "<", "=", " or ", " and ", "+"};
                return expression(depth - 1) + signs[random.nextInt(signs.length)]
                        + expression(depth - 1);
        }
    }

    private String textToFeed() {
        String text = "dues " + expression(random.nextInt(4)) + ";offs "
                + expression(random.nextInt(2)) + " ;\nextras " + expression(random.nextInt(2)) + ";";
        if (random.nextInt(3) == 0) {
            int at = random.nextInt(text.length());
            String other = PIECES_OF_TEXT[random.nextInt(PIECES_OF_TEXT.length)];
            text = text.substring(0, at) + other
                    + text.substring(Math.min(text.length(), at + random.nextInt(3)));
        }
        return random.nextInt(12) == 0 ? text.substring(0, random.nextInt(text.length())) : text;
    }

    private void feedText() {
        String text = textToFeed();
        for (int i = 0; i < text.length() && calls < CALLS - 2; i++) {
            int c = text.charAt(i);
            due("feed(" + c + ")", x.feed(c), m.feed(c));
        }
        due("text() of " + text, x.text(), m.text());
        force(upTo(m.texts.size() - 1));
    }

    private void force(int t) {
        due("force(" + t + ")", x.force(t), m.force(t));
    }

    private void feedLight() {
        int kind = upTo(5);
        int number = upTo(9);
        int years = random.nextBoolean() ? 1 + upTo(998) : 1 + upTo(60);
        due("light(" + kind + ", " + number + ", " + years + ")",
                x.light(kind, number, years), m.light(kind, number, years));
    }

    private void step() {
        switch (random.nextInt(30)) {
            case 0, 1 -> feedLight();
            case 2, 3, 4, 5 -> stepLook();
            case 6, 7, 8 -> stepSet();
            case 9 -> {
                if (random.nextInt(3) == 0) {
                    feedText();
                } else {
                    force(random.nextInt(m.texts.size()));
                }
            }
            case 10, 11, 12 -> stepOwes();
            case 13, 14, 15 -> stepPay();
            case 16, 17, 18 -> stepBest();
            case 19, 20, 21, 22, 23 -> stepTold();
            case 24 -> stepImage();
            default -> stepHost();
        }
    }

    private void stepLook() {
        int one = upTo(4);
        int light = light();
        int nights = nights();
        due("look(" + one + ", " + light + ", " + nights + ")",
                x.look(one, light, nights), m.look(one, light, nights));
    }

    private void stepSet() {
        int what = upTo(5);
        int of = what == 1 || what == 2 ? light() : upTo(what == 3 ? 4 : 3);
        int v = switch (what) {
            case 0 -> nights() & nights();
            case 1 -> upTo(9);
            case 2 -> upTo(999);
            case 5 -> upTo(20);
            default -> upTo(99);
        };
        due("set(" + what + ", " + of + ", " + v + ")", x.set(what, of, v), m.set(what, of, v));
        int asked = upTo(9);
        due("told(" + of + ", " + asked + ")", x.told(of, asked), m.told(of, asked));
        int counted = upTo(5);
        due("count(" + counted + ")", x.count(counted), m.count(counted));
    }

    private void stepOwes() {
        int one = upTo(4);
        int light = light();
        int what = random.nextInt(3) == 0 ? upTo(1) : 10 + upTo(11);
        due("owes(" + one + ", " + light + ", " + what + ")",
                x.owes(one, light, what), m.owes(one, light, what));
        due("owes(" + one + ", " + light + ", 0)", x.owes(one, light, 0), m.owes(one, light, 0));
        int all = upTo(2);
        due("all(" + all + ")", x.all(all), m.all(all));
    }

    private void stepPay() {
        int sum = upTo(999);
        int what = upTo(2);
        due("pieces(" + sum + ", " + what + ")", x.pieces(sum, what), m.pieces(sum, what));
        int one = upTo(4);
        if (random.nextInt(3) == 0) {
            due("pay(" + one + ")", x.pay(one), m.pay(one));
            for (int sort = 0; sort < 4; sort++) {
                due("told(" + sort + ", 5)", x.told(sort, 5), m.told(sort, 5));
            }
        }
    }

    private void stepBest() {
        int one = upTo(4);
        int light = light();
        int what = upTo(1);
        due("cheapest(" + one + ", " + light + ", " + what + ")",
                x.cheapest(one, light, what), m.cheapest(one, light, what));
        due("leave(" + one + ", " + what + ")", x.leave(one, what), m.leave(one, what));
        int k = random.nextInt(8) == 0 ? upTo(99999) : upTo(random.nextBoolean() ? 1000 : 60);
        due("farm(" + one + ", " + k + ")", x.farm(one, k), m.farm(one, k));
        int mile = upTo(99);
        int asked = upTo(2);
        due("walk(" + mile + ", " + k + ", " + asked + ")",
                x.walk(mile, k, asked), m.walk(mile, k, asked));
    }

    private void stepTold() {
        int sheet = upTo(3);
        int one = upTo(4);
        if (random.nextInt(3) > 0) {
            due("film(" + sheet + ", " + one + ")", x.film(sheet, one), m.film(sheet, one));
        }
        if (random.nextInt(4) == 0) {
            stepSet();
        }
        for (int i = 0; i < 2; i++) {
            int what = random.nextInt(3) == 0 ? upTo(2) : 10 * (1 + random.nextInt(4)) + light();
            if (what < 30 || random.nextInt(4) == 0) {
                due("tells(" + sheet + ", " + one + ", " + what + ")",
                        x.tells(sheet, one, what), m.tells(sheet, one, what));
            }
        }
        int seed = random.nextInt();
        if (random.nextBoolean()) {
            due("drawn(" + seed + ")", x.drawn(seed), m.drawn(seed));
            return;
        }
        int many = random.nextInt(6) == 0 ? upTo(20) : upTo(6);
        int k = random.nextBoolean() ? m.drawn(seed) : upTo(99999);
        int part = upTo(1);
        int from = random.nextInt(20) == 0 ? Integer.MAX_VALUE - 1 : seed;
        due("chance(" + from + ", " + many + ", " + k + ", " + part + ")",
                x.chance(from, many, k, part), m.chance(from, many, k, part));
    }

    private void stepImage() {
        if (random.nextInt(3) == 0) {
            due("image()", x.image(), m.image());
        } else if (random.nextBoolean()) {
            due("back()", x.back(), m.back());
        }
    }

    private void fillWithLights(int sheet, int sort) {
        int size = random.nextInt(21);
        due("sheet(" + sheet + ", " + sort + ", " + size + ")",
                x.sheet(sheet, sort, size), m.sheet(sheet, sort, size));
        int shift = random.nextInt(2);
        for (int i = 0; i < size; i++) {
            int part = (i + shift) % 3;
            int v = part == 0 ? upTo(5) : part == 1 ? upTo(9) : 1 + upTo(200);
            due("cell(" + sheet + ", " + i + ", " + v + ")",
                    x.cell(sheet, i, v), m.cell(sheet, i, v));
        }
    }

    private void stepHost() {
        int sheet = upTo(3);
        int sort = random.nextInt(6) == 0 ? -1 : upTo(2);
        switch (random.nextInt(9)) {
            case 0 -> {
                int n = random.nextBoolean() ? upTo(40) : m.now.lights.size();
                due("sheet(" + sheet + ", " + sort + ", " + n + ")",
                        x.sheet(sheet, sort, n), m.sheet(sheet, sort, n));
            }
            case 1, 2, 3 -> {
                int i = random.nextBoolean() ? upTo(6) : upTo(39);
                int v = random.nextInt(3) == 0 ? random.nextInt() : upTo(300);
                due("cell(" + sheet + ", " + i + ", " + v + ")",
                        x.cell(sheet, i, v), m.cell(sheet, i, v));
            }
            case 4, 5 -> {
                int other = random.nextBoolean() ? sheet : upTo(3);
                int i = random.nextBoolean() ? upTo(3) : upTo(40);
                int j = random.nextBoolean() ? upTo(3) : upTo(40);
                int n = random.nextBoolean() ? upTo(5) : upTo(40);
                due("copy(" + sheet + ", " + i + ", " + other + ", " + j + ", " + n + ")",
                        x.copy(sheet, i, other, j, n), m.copy(sheet, i, other, j, n));
            }
            case 6 -> {
                fillWithLights(sheet, sort);
                int from = upTo(random.nextBoolean() ? 1 : 20);
                int n = upTo(6);
                due("lights(" + sheet + ", " + sort + ", " + from + ", " + n + ")",
                        x.lights(sheet, sort, from, n), m.lights(sheet, sort, from, n));
            }
            default -> {
                int light = light();
                int k = upTo(5);
                due("taken(" + light + ", " + k + ")", x.taken(light, k), m.taken(light, k));
            }
        }
    }
}
