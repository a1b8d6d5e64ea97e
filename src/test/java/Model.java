import java.lang.reflect.Array;
import java.util.ArrayList;
import java.util.Arrays;
import java.util.Comparator;
import java.util.List;

/**
 * The document once more, built otherwise than the program: kinds are classes, sheets are the
 * host's own arrays whose exceptions are the answers, texts are trees, what would be is tried
 * on a copy of everything, pieces and walks are tried in every way.
 */
final class Model {
    static final int NONE = -1, BAD = -2, STATE = -3, FULL = -4;
    static final long NO = -4611686018427387904L;

    static class Light {
        int number;
        int years;

        int kind() {
            return 0;
        }

        int due(int v, int k) {
            return v;
        }

        int off(int v) {
            return v;
        }

        int extra(int v, int k) {
            return v;
        }
    }

    static class Twin extends Light {
        @Override int kind() {
            return 1;
        }

        @Override int due(int v, int k) {
            return 2 * super.due(v, k);
        }

        @Override int extra(int v, int k) {
            return super.extra(v, k) + k;
        }
    }

    static class Red extends Light {
        @Override int kind() {
            return 2;
        }

        @Override int due(int v, int k) {
            return super.due(v, k) / 2;
        }

        @Override int off(int v) {
            return super.off(v) + number;
        }
    }

    static final class Comet extends Twin {
        @Override int kind() {
            return 3;
        }

        @Override int due(int v, int k) {
            return k >= number ? 0 : super.due(v, k);
        }

        @Override int off(int v) {
            return 0;
        }
    }

    static final class Giant extends Red {
        @Override int kind() {
            return 4;
        }

        @Override int due(int v, int k) {
            return super.due(v, k) + years / 100;
        }

        @Override int extra(int v, int k) {
            return 2 * super.extra(v, k);
        }
    }

    static final class Lamp extends Light {
        @Override int kind() {
            return 5;
        }

        @Override int due(int v, int k) {
            return 1;
        }

        @Override int extra(int v, int k) {
            return 0;
        }
    }

    static final List<Class<? extends Light>> CLASSES =
            List.of(Light.class, Twin.class, Red.class, Comet.class, Giant.class, Lamp.class);

    static Light make(int kind, int number, int years) {
        Light light = switch (kind) {
            case 0 -> new Light();
            case 1 -> new Twin();
            case 2 -> new Red();
            case 3 -> new Comet();
            case 4 -> new Giant();
            default -> new Lamp();
        };
        light.number = number;
        light.years = years;
        return light;
    }

    record Names(int years, int nights, int number, int night, int cloudy, int lights) { }

    interface Tree {
        int of(Names names);
    }

    record Text(Tree dues, Tree offs, Tree extras) { }

    @SuppressWarnings("serial")
    static final class Fault extends RuntimeException {
        final int place;

        Fault(int place) {
            this.place = place;
        }
    }

    record Token(String what, int place) { }

    /** Reads all tokens ahead; one that is wrong in itself is the token "?". */
    static final class Parser {
        private final List<Token> tokens = new ArrayList<>();
        private int at;
        private int open;

        Parser(String tape) {
            int i = 0;
            while (i < tape.length()) {
                int start = i;
                char c = tape.charAt(i);
                if (c == ' ' || c == '\n') {
                    i++;
                    continue;
                }
                if (c >= 'a' && c <= 'z') {
                    while (i < tape.length() && tape.charAt(i) >= 'a' && tape.charAt(i) <= 'z') {
                        i++;
                    }
                } else if (c >= '0' && c <= '9') {
                    while (i < tape.length() && tape.charAt(i) >= '0' && tape.charAt(i) <= '9') {
                        i++;
                    }
                } else {
                    i++;
                }
                String what = tape.substring(start, i);
                boolean fits = what.matches(
                        "years|nights|number|night|cloudy|lights|dues|offs|extras|or|and|not"
                        + "|[0-9]{1,4}|[();+*<=-]");
                tokens.add(new Token(fits ? what : "?", start));
            }
            tokens.add(new Token("", tape.length()));
        }

        private String now() {
            return tokens.get(at).what();
        }

        private Fault fault() {
            return new Fault(tokens.get(at).place());
        }

        private boolean accept(String what) {
            if (!now().equals(what)) {
                return false;
            }
            at++;
            return true;
        }

        private void expect(String what) {
            if (!accept(what)) {
                throw fault();
            }
        }

        private void begin() {
            if (open == 5) {
                throw fault();
            }
            open++;
            at++;
        }

        Text text() {
            expect("dues");
            Tree dues = either();
            expect(";");
            expect("offs");
            Tree offs = either();
            expect(";");
            expect("extras");
            Tree extras = either();
            expect(";");
            expect("");
            return new Text(dues, offs, extras);
        }

        private static int bit(boolean b) {
            return b ? 1 : 0;
        }

        private Tree either() {
            List<Tree> parts = new ArrayList<>(List.of(both()));
            while (accept("or")) {
                parts.add(both());
            }
            return parts.size() == 1 ? parts.get(0)
                    : n -> bit(parts.stream().anyMatch(p -> p.of(n) != 0));
        }

        private Tree both() {
            List<Tree> parts = new ArrayList<>(List.of(not()));
            while (accept("and")) {
                parts.add(not());
            }
            return parts.size() == 1 ? parts.get(0)
                    : n -> bit(parts.stream().allMatch(p -> p.of(n) != 0));
        }

        private Tree not() {
            if (now().equals("not")) {
                begin();
                Tree inner = not();
                open--;
                return n -> bit(inner.of(n) == 0);
            }
            Tree a = sum();
            if (accept("<")) {
                Tree b = sum();
                return n -> bit(a.of(n) < b.of(n));
            }
            if (accept("=")) {
                Tree b = sum();
                return n -> bit(a.of(n) == b.of(n));
            }
            return a;
        }

        private Tree sum() {
            Tree so = term();
            while (true) {
                Tree a = so;
                if (accept("+")) {
                    Tree b = term();
                    so = n -> a.of(n) + b.of(n);
                } else if (accept("-")) {
                    Tree b = term();
                    so = n -> a.of(n) - b.of(n);
                } else {
                    return so;
                }
            }
        }

        private Tree term() {
            Tree so = one();
            while (accept("*")) {
                Tree a = so;
                Tree b = one();
                so = n -> a.of(n) * b.of(n);
            }
            return so;
        }

        private Tree one() {
            String what = now();
            if (what.equals("-")) {
                begin();
                Tree inner = one();
                open--;
                return n -> -inner.of(n);
            }
            if (what.equals("(")) {
                begin();
                Tree inner = either();
                expect(")");
                open--;
                return inner;
            }
            Tree tree = switch (what) {
                case "years" -> Names::years;
                case "nights" -> Names::nights;
                case "number" -> Names::number;
                case "night" -> Names::night;
                case "cloudy" -> Names::cloudy;
                case "lights" -> Names::lights;
                default -> null;
            };
            if (tree == null) {
                if (!what.matches("[0-9]+")) {
                    throw fault();
                }
                int number = Integer.parseInt(what);
                tree = n -> number;
            }
            at++;
            return tree;
        }
    }

    static final class World {
        int clouds;
        int rule;
        final List<Light> lights = new ArrayList<>();
        final int[][] looked = new int[5][6];
        final int[] miles = new int[5];
        final int[] paid = new int[5];
        final int[] bright = {1, 5, 10, 50};
        final int[] many = new int[4];

        World copy() {
            World w = new World();
            w.clouds = clouds;
            w.rule = rule;
            for (Light l : lights) {
                w.lights.add(make(l.kind(), l.number, l.years));
            }
            for (int i = 0; i < 5; i++) {
                w.looked[i] = looked[i].clone();
            }
            System.arraycopy(miles, 0, w.miles, 0, 5);
            System.arraycopy(paid, 0, w.paid, 0, 5);
            System.arraycopy(bright, 0, w.bright, 0, 4);
            System.arraycopy(many, 0, w.many, 0, 4);
            return w;
        }
    }

    World now = new World();
    World image;
    final List<Text> texts = new ArrayList<>();
    final StringBuilder tape = new StringBuilder();
    final Object[] sheets = new Object[4];

    Model() {
        texts.add(new Parser("dues years ; offs 0 ; extras 3 ;").text());
    }

    private static int clamp(int v, int most) {
        return Math.max(0, Math.min(most, v));
    }

    private static boolean counts(World w, int night) {
        return (w.clouds & 1 << night) == 0;
    }

    private static List<Integer> nightsOf(World w, int one, int light) {
        List<Integer> nights = new ArrayList<>();
        for (int t = 0; t < 12; t++) {
            if (counts(w, t) && (w.looked[one][light] & 1 << t) != 0) {
                nights.add(t);
            }
        }
        return nights;
    }

    private static int lightsOf(World w, int one) {
        int n = 0;
        for (int i = 0; i < w.lights.size(); i++) {
            n += nightsOf(w, one, i).isEmpty() ? 0 : 1;
        }
        return n;
    }

    private static Names names(World w, int one, int light, int night) {
        Light l = w.lights.get(light);
        return new Names(l.years, nightsOf(w, one, light).size(), l.number, night,
                Integer.bitCount(w.clouds), lightsOf(w, one));
    }

    private int due(World w, int one, int light, int night) {
        int v = clamp(texts.get(w.rule).dues().of(names(w, one, light, night)), 99);
        return clamp(w.lights.get(light).due(v, nightsOf(w, one, light).size()), 999);
    }

    private int owesFor(World w, int one, int light) {
        List<Integer> nights = nightsOf(w, one, light);
        if (nights.isEmpty()) {
            return 0;
        }
        int k = nights.size();
        int so = 0;
        for (int t : nights) {
            so += due(w, one, light, t);
        }
        Light l = w.lights.get(light);
        Names names = names(w, one, light, 0);
        if (k > 2) {
            so += clamp(l.extra(clamp(texts.get(w.rule).extras().of(names), 99), k), 999);
        }
        so -= clamp(l.off(clamp(texts.get(w.rule).offs().of(names), 99)), 999);
        return Math.max(0, so);
    }

    private int withoutPaid(World w, int one) {
        int so = 0;
        for (int i = 0; i < w.lights.size(); i++) {
            so += owesFor(w, one, i);
        }
        return so;
    }

    private int allOf(World w, int one) {
        return Math.max(0, withoutPaid(w, one) - w.paid[one]);
    }

    private int together(World w) {
        int so = 0;
        for (int one = 0; one < 5; one++) {
            so += allOf(w, one);
        }
        return so;
    }

    private static boolean in(int v, int least, int most) {
        return least <= v && v <= most;
    }

    private boolean isLight(int i) {
        return in(i, 0, now.lights.size() - 1);
    }

    int set(int what, int of, int v) {
        boolean fits = switch (what) {
            case 0 -> in(v, 0, 4095);
            case 1 -> isLight(of) && in(v, 0, 9);
            case 2 -> isLight(of) && in(v, 1, 999);
            case 3 -> in(of, 0, 4) && in(v, 0, 99);
            case 4 -> in(of, 0, 3) && in(v, 1, 99);
            case 5 -> in(of, 0, 3) && in(v, 0, 20);
            default -> false;
        };
        if (!fits) {
            return BAD;
        }
        int was = told(of, what);
        switch (what) {
            case 0 -> now.clouds = v;
            case 1 -> now.lights.get(of).number = v;
            case 2 -> now.lights.get(of).years = v;
            case 3 -> now.miles[of] = v;
            case 4 -> now.bright[of] = v;
            default -> now.many[of] = v;
        }
        return was;
    }

    int light(int kind, int number, int years) {
        if (!in(kind, 0, 5) || !in(number, 0, 9) || !in(years, 1, 999)) {
            return BAD;
        }
        if (now.lights.size() == 6) {
            return FULL;
        }
        now.lights.add(make(kind, number, years));
        for (int one = 0; one < 5; one++) {
            now.looked[one][now.lights.size() - 1] = 0;
        }
        return now.lights.size() - 1;
    }

    int look(int looker, int light, int nights) {
        if (!in(looker, 0, 4) || !isLight(light) || !in(nights, 0, 4095)) {
            return BAD;
        }
        int was = now.looked[looker][light];
        now.looked[looker][light] = nights;
        return was;
    }

    int told(int of, int what) {
        return switch (what) {
            case 0 -> now.clouds;
            case 1 -> isLight(of) ? now.lights.get(of).number : BAD;
            case 2 -> isLight(of) ? now.lights.get(of).years : BAD;
            case 3 -> in(of, 0, 4) ? now.miles[of] : BAD;
            case 4 -> in(of, 0, 3) ? now.bright[of] : BAD;
            case 5 -> in(of, 0, 3) ? now.many[of] : BAD;
            case 6 -> isLight(of) ? now.lights.get(of).kind() : BAD;
            case 7 -> in(of, 0, 4) ? now.paid[of] : BAD;
            case 8 -> in(of, 0, 4) ? allOf(now, of) : BAD;
            case 9 -> in(of, 0, 4) ? lightsOf(now, of) : BAD;
            default -> BAD;
        };
    }

    int feed(int letter) {
        if (!in(letter, 0, 255)) {
            return BAD;
        }
        if (tape.length() == 160) {
            return FULL;
        }
        return tape.append((char) letter).length();
    }

    int text() {
        if (texts.size() == 6) {
            return FULL;
        }
        String read = tape.toString();
        tape.setLength(0);
        try {
            texts.add(new Parser(read).text());
            return texts.size() - 1;
        } catch (Fault fault) {
            return -100 - fault.place;
        }
    }

    int force(int text) {
        if (!in(text, 0, texts.size() - 1)) {
            return BAD;
        }
        int was = now.rule;
        now.rule = text;
        return was;
    }

    int owes(int looker, int light, int what) {
        if (!in(looker, 0, 4) || !isLight(light) || !in(what, 0, 1) && !in(what, 10, 21)) {
            return BAD;
        }
        return what == 0 ? owesFor(now, looker, light)
                : what == 1 ? nightsOf(now, looker, light).size()
                : due(now, looker, light, what - 10);
    }

    int all(int what) {
        if (what == 0) {
            return together(now);
        }
        if (what == 1) {
            List<Integer> ones = new ArrayList<>(List.of(0, 1, 2, 3, 4));
            ones.sort(Comparator.comparing((Integer one) -> -allOf(now, one)));
            return ones.get(0);
        }
        if (what == 2) {
            int so = 0;
            for (int s = 0; s < 4; s++) {
                so += now.bright[s] * now.many[s];
            }
            return so;
        }
        return BAD;
    }

    /** For each sum up to 999 the way that is due ({how many, -of sort 3, -2, -1, -0}), or null. */
    private int[][] ways() {
        int[][] best = new int[1000][];
        int[] b = now.bright;
        int[] m = now.many;
        int[] n = new int[4];
        for (n[0] = 0; n[0] <= m[0]; n[0]++) {
            for (n[1] = 0; n[1] <= m[1]; n[1]++) {
                for (n[2] = 0; n[2] <= m[2]; n[2]++) {
                    for (n[3] = 0; n[3] <= m[3]; n[3]++) {
                        int x = n[0] * b[0] + n[1] * b[1] + n[2] * b[2] + n[3] * b[3];
                        if (x > 999) {
                            break;
                        }
                        int[] way = {n[0] + n[1] + n[2] + n[3], -n[3], -n[2], -n[1], -n[0]};
                        if (best[x] == null || Arrays.compare(way, best[x]) < 0) {
                            best[x] = way;
                        }
                    }
                }
            }
        }
        return best;
    }

    int pieces(int x, int what) {
        if (!in(x, 0, 999) || !in(what, 0, 2)) {
            return BAD;
        }
        int[][] ways = ways();
        if (what == 0) {
            return ways[x] == null ? 0 : 1;
        }
        if (what == 1) {
            return ways[x] == null ? NONE : ways[x][0];
        }
        int near = x;
        while (ways[near] == null) {
            near--;
        }
        return near;
    }

    int pay(int looker) {
        if (!in(looker, 0, 4)) {
            return BAD;
        }
        int all = allOf(now, looker);
        if (all > 999) {
            return STATE;
        }
        int[] way = ways()[all];
        if (way == null) {
            return STATE;
        }
        for (int s = 0; s < 4; s++) {
            now.many[s] += way[4 - s];
        }
        now.paid[looker] += all;
        return way[0];
    }

    int cheapest(int looker, int light, int what) {
        if (!in(looker, 0, 4) || !isLight(light) || !in(what, 0, 1)) {
            return BAD;
        }
        int best = NONE;
        int least = NONE;
        for (int t = 11; t >= 0; t--) {
            if (counts(now, t) && (now.looked[looker][light] & 1 << t) == 0) {
                World w = now.copy();
                w.looked[looker][light] |= 1 << t;
                int so = withoutPaid(w, looker);
                if (best == NONE || so <= least) {
                    best = t;
                    least = so;
                }
            }
        }
        return what == 0 ? best : least;
    }

    int leave(int looker, int what) {
        if (!in(looker, 0, 4) || !in(what, 0, 1)) {
            return BAD;
        }
        int[] then = new int[now.lights.size()];
        for (int i = 0; i < then.length; i++) {
            World w = now.copy();
            w.looked[looker][i] = 0;
            then[i] = withoutPaid(w, looker);
        }
        int asNow = withoutPaid(now, looker);
        int least = Arrays.stream(then).min().orElse(asNow);
        if (least >= asNow) {
            return what == 0 ? NONE : asNow;
        }
        int first = 0;
        while (then[first] != least) {
            first++;
        }
        return what == 0 ? first : least;
    }

    int farm(int looker, int k) {
        if (!in(looker, 0, 4) || !in(k, 0, 99999)) {
            return BAD;
        }
        for (int t = 0; t < 12; t++) {
            World w = now.copy();
            for (int i = 0; i < 6; i++) {
                for (int later = t + 1; later < 12; later++) {
                    w.looked[looker][i] &= ~(1 << later);
                }
            }
            if (withoutPaid(w, looker) >= k) {
                return t;
            }
        }
        return NONE;
    }

    /** The shortest of all orders. */
    private int shortest(int from, List<Integer> miles) {
        int best = miles.isEmpty() ? 0 : Integer.MAX_VALUE;
        for (int i = 0; i < miles.size(); i++) {
            List<Integer> others = new ArrayList<>(miles);
            int next = others.remove(i);
            best = Math.min(best, Math.abs(from - next) + shortest(next, others));
        }
        return best;
    }

    int walk(int mile, int k, int what) {
        if (!in(mile, 0, 99) || !in(k, 0, 99999) || !in(what, 0, 2)) {
            return BAD;
        }
        List<Integer> ones = new ArrayList<>();
        List<Integer> miles = new ArrayList<>();
        for (int one = 0; one < 5; one++) {
            if (allOf(now, one) >= k) {
                ones.add(one);
                miles.add(now.miles[one]);
            }
        }
        if (what == 2) {
            return ones.size();
        }
        if (what == 0) {
            return shortest(mile, miles);
        }
        if (ones.isEmpty()) {
            return NONE;
        }
        int low = miles.stream().min(Comparator.naturalOrder()).get();
        int high = miles.stream().max(Comparator.naturalOrder()).get();
        int byLow = Math.abs(mile - low) + shortest(low, miles);
        int byHigh = Math.abs(mile - high) + shortest(high, miles);
        return ones.get(miles.indexOf(byHigh < byLow ? high : low));
    }

    private boolean allSo(World w, int one, Object sheet) {
        for (int i = 0; i < w.lights.size(); i++) {
            if (owesFor(w, one, i) != Array.getInt(sheet, i)) {
                return false;
            }
        }
        return true;
    }

    int tells(int sheet, int looker, int what) {
        if (!in(sheet, 0, 3) || !in(looker, 0, 4) || !in(what, 0, 2) && !in(what, 10, 49)) {
            return BAD;
        }
        int light = what % 10;
        if (what >= 10 && !isLight(light)) {
            return BAD;
        }
        Object row = sheets[sheet];
        if (row == null) {
            return -11;
        }
        if (Array.getLength(row) != now.lights.size()) {
            return BAD;
        }
        if (what == 0) {
            for (int i = 0; i < now.lights.size(); i++) {
                if (owesFor(now, looker, i) != Array.getInt(row, i)) {
                    return i;
                }
            }
            return NONE;
        }
        int bits = 0;
        int many = 0;
        int least = NONE;
        int last = what == 1 ? texts.size() - 1 : what == 2 ? 12
                : what < 20 ? 5 : what < 30 ? 9 : 999;
        for (int v = what < 30 ? 0 : 1; v <= last; v++) {
            World w = now.copy();
            if (what == 1) {
                w.rule = v;
            } else if (what == 2) {
                w.clouds = v == 12 ? 0 : 1 << v;
            } else if (what < 20) {
                Light l = w.lights.get(light);
                w.lights.set(light, make(v, l.number, l.years));
            } else if (what < 30) {
                w.lights.get(light).number = v;
            } else {
                w.lights.get(light).years = v;
            }
            if (allSo(w, looker, row)) {
                bits |= 1 << v;
                many++;
                least = least == NONE ? v : least;
            }
        }
        return what < 30 ? bits : what < 40 ? many : least;
    }

    int film(int sheet, int looker) {
        if (!in(sheet, 0, 3) || !in(looker, 0, 4)) {
            return BAD;
        }
        int[] row = new int[now.lights.size()];
        Arrays.setAll(row, i -> owesFor(now, looker, i));
        sheets[sheet] = row;
        return row.length;
    }

    int drawn(int seed) {
        World w = now.copy();
        w.clouds = 0;
        int z = seed;
        for (int t = 0; t < 12; t++) {
            z = z * 1103515245 + 12345;
            w.clouds |= (z >>> 9) % 3 == 0 ? 1 << t : 0;
        }
        return together(w);
    }

    long chance(int seed, int m, int k, int part) {
        if (!in(m, 1, 20) || !in(k, 0, 99999) || !in(part, 0, 1)) {
            return NO;
        }
        long those = 0;
        for (int i = 0; i < m; i++) {
            those += drawn(seed + i) >= k ? 1 : 0;
        }
        long g = java.math.BigInteger.valueOf(those).gcd(java.math.BigInteger.valueOf(m)).longValue();
        return part == 0 ? those / g : m / g;
    }

    int image() {
        image = now.copy();
        return now.lights.size();
    }

    int back() {
        if (image == null) {
            return STATE;
        }
        now = image.copy();
        return now.lights.size();
    }

    int count(int what) {
        return switch (what) {
            case 0 -> now.lights.size();
            case 1 -> Integer.bitCount(now.clouds);
            case 2 -> Arrays.stream(now.many).sum();
            case 3 -> texts.size();
            case 4 -> tape.length();
            case 5 -> now.rule;
            default -> BAD;
        };
    }

    int sheet(int sheet, int sort, int n) {
        if (!in(sheet, 0, 3) || !in(sort, -1, 2) || sort >= 0 && n > 40) {
            return BAD;
        }
        try {
            sheets[sheet] = switch (sort) {
                case 0 -> new byte[n];
                case 1 -> new short[n];
                case 2 -> new int[n];
                default -> null;
            };
            return 1;
        } catch (NegativeArraySizeException e) {
            return -14;
        }
    }

    int cell(int sheet, int i, int v) {
        if (!in(sheet, 0, 3)) {
            return BAD;
        }
        try {
            if (sheets[sheet] instanceof byte[] b) {
                b[i] = (byte) v;
            } else if (sheets[sheet] instanceof short[] s) {
                s[i] = (short) v;
            } else {
                ((int[]) sheets[sheet])[i] = v;
            }
            return 1;
        } catch (NullPointerException e) {
            return -11;
        } catch (ArrayIndexOutOfBoundsException e) {
            return -12;
        }
    }

    @SuppressWarnings("SuspiciousSystemArraycopy")
    int copy(int sheet, int i, int other, int j, int n) {
        if (!in(sheet, 0, 3) || !in(other, 0, 3)) {
            return BAD;
        }
        try {
            System.arraycopy(sheets[sheet], i, sheets[other], j, n);
            return n;
        } catch (NullPointerException e) {
            return -11;
        } catch (ArrayStoreException e) {
            return -13;
        } catch (IndexOutOfBoundsException e) {
            return -12;
        }
    }

    int lights(int sheet, int sort, int from, int n) {
        if (!in(sheet, 0, 3) || !in(sort, 0, 2) || !in(n, 0, 6)) {
            return BAD;
        }
        try {
            List<Class<?>> sorts = List.of(byte[].class, short[].class, int[].class);
            Object row = sorts.get(sort).cast(sheets[sheet]);
            int size = Array.getLength(row);
            int came = 0;
            for (int i = 0; i < n; i++) {
                int at = from + 3 * i;
                int kind = Array.getInt(row, at);
                int number = Array.getInt(row, at + 1);
                int years = Array.getInt(row, at + 2);
                came += size >= 0 && light(kind, number, years) >= 0 ? 1 : 0;
            }
            return came;
        } catch (ClassCastException e) {
            return -13;
        } catch (NullPointerException e) {
            return -11;
        } catch (ArrayIndexOutOfBoundsException e) {
            return -12;
        }
    }

    int taken(int light, int k) {
        if (!in(k, 0, 5)) {
            return BAD;
        }
        if (!isLight(light)) {
            return -11;
        }
        try {
            return CLASSES.get(k).cast(now.lights.get(light)).number;
        } catch (ClassCastException e) {
            return -13;
        }
    }
}
