/** Light years are owed: see README.md and the document that it names. */
public final class LightYearsAreOwed {
    public static final int NONE = -1, BAD = -2, STATE = -3, FULL = -4;
    public static final long NO = -4611686018427387904L;

    private static final int NOTHING = -11, OUTSIDE = -12, UNLIKE = -13, BELOW = -14;
    private static final int FAULT_BASE = -100;

    private static final int NIGHTS = 12, NIGHT_BITS = 4095;
    private static final int LIGHTS = 6, LOOKERS = 5, SORTS = 4, TEXTS = 6, TAPE = 160;
    private static final int SHEETS = 4, ITEMS = 40;
    private static final int MOST_NUMBER = 9, MOST_YEARS = 999, MOST_MILE = 99;
    private static final int MOST_TO_PAY = 999, MOST_ASKED = 99999, MOST_SEEDS = 20;
    private static final int MANY_NIGHTS = 2;
    private static final int MOST_TOLD = 99, MOST_DUE = 999;

    private static final int TWIN = 1, RED = 2, COMET = 3, GIANT = 4, LAMP = 5;
    private static final int KINDS = 6;
    private static final int[] UNDER = {-1, 0, 0, 1, 2, 0};

    /** The bounds of what set() sets, by its what. */
    private static final int[] LEAST = {0, 0, 1, 0, 1, 0};
    private static final int[] MOST = {NIGHT_BITS, MOST_NUMBER, MOST_YEARS, MOST_MILE, 99, 20};

    private static final int MISSING = -1, BYTES = 0, SHORTS = 1, INTS = 2;

    private static final int DUES = 0, OFFS = 1, EXTRAS = 2, PARTS = 3;
    private static final String FIRST_TEXT = "dues years ; offs 0 ; extras 3 ;";

    /** A blank behind each; the first six are the names, the others the keys. */
    private static final String WORDS =
            "years nights number night cloudy lights dues offs extras or and not ";
    private static final int YEARS_NAME = 0, NIGHTS_NAME = 1, NUMBER_NAME = 2;
    private static final int NIGHT_NAME = 3, CLOUDY_NAME = 4, LIGHTS_NAME = 5, NAMES = 6;

    /** Tokens: a key is its place among the words, a sign its own byte. */
    private static final int WRONG = -1, END = 0, NUMBER_TOKEN = 1, NAME_TOKEN = 2;
    private static final int DUES_KEY = 6, OR = 9, AND = 10, NOT = 11;
    /** No token: how the minus ahead of a one stands in a rule's code. */
    private static final int NEGATE = 12;
    private static final int MOST_OPEN = 5, MOST_DIGITS = 4;
    /** Each of six levels can leave five values waiting; this is more. */
    private static final int STACK = 40;

    private final Sky sky = new Sky();
    private final Sky kept = new Sky();
    private boolean hasImage;
    private final Rule[] rules = new Rule[TEXTS];
    private int ruleCount;
    private final Reader reader;
    private final Bill bill;
    private final Purse purse = new Purse();
    private final Row[] rows = new Row[SHEETS];

    public LightYearsAreOwed() {
        for (int i = 0; i < rules.length; i++) {
            rules[i] = new Rule();
        }
        for (int i = 0; i < rows.length; i++) {
            rows[i] = new Row();
        }
        sky.bright[0] = 1;
        sky.bright[1] = 5;
        sky.bright[2] = 10;
        sky.bright[3] = 50;
        reader = new Reader(rules[0]);
        bill = new Bill(rules[0]);
        for (int i = 0; i < FIRST_TEXT.length(); i++) {
            reader.append(FIRST_TEXT.charAt(i));
        }
        reader.read(rules[0]);
        reader.empty();
        ruleCount = 1;
    }

    // ---- lights, lookers, pieces

    public int set(int what, int of, int v) {
        if (what < 0 || what >= MOST.length || what >= LEAST.length) {
            return BAD;
        }
        if (v < LEAST[what] || v > MOST[what]) {
            return BAD;
        }
        if (what == 0) {
            int clouds = sky.clouds;
            sky.clouds = v;
            return clouds;
        }
        int[] places = placesOf(what);
        if (places == null || of < 0 || of >= placeCount(what) || of >= places.length) {
            return BAD;
        }
        int was = places[of];
        places[of] = v;
        return was;
    }

    public int light(int kind, int number, int years) {
        if (!between(kind, 0, KINDS - 1) || !between(number, 0, MOST_NUMBER)
                || !between(years, 1, MOST_YEARS)) {
            return BAD;
        }
        return sky.addLight(kind, number, years);
    }

    public int look(int looker, int light, int nights) {
        if (!isLooker(looker) || !isLight(light) || !between(nights, 0, NIGHT_BITS)) {
            return BAD;
        }
        int place = looker * LIGHTS + light;
        int was = sky.seen[place];
        sky.seen[place] = nights;
        return was;
    }

    public int told(int of, int what) {
        if (what == 0) {
            return sky.clouds;
        }
        if (what >= 7) {
            return toldOfLooker(of, what);
        }
        int[] places = placesOf(what);
        if (places == null || of < 0 || of >= placeCount(what) || of >= places.length) {
            return BAD;
        }
        return places[of];
    }

    private int toldOfLooker(int looker, int what) {
        if (!isLooker(looker)) {
            return BAD;
        }
        switch (what) {
            case 7:
                return sky.paid[looker];
            case 8:
                return allOf(looker, sky.clouds);
            case 9:
                openBill(looker);
                return bill.lightsSeen();
            default:
                return BAD;
        }
    }

    /** Where set() and told() find what they are asked for; null: nowhere. */
    private int[] placesOf(int what) {
        switch (what) {
            case 1:
                return sky.numbers;
            case 2:
                return sky.years;
            case 3:
                return sky.miles;
            case 4:
                return sky.bright;
            case 5:
                return sky.many;
            case 6:
                return sky.kinds;
            default:
                return null;
        }
    }

    private int placeCount(int what) {
        switch (what) {
            case 3:
                return LOOKERS;
            case 4:
            case 5:
                return SORTS;
            default:
                return sky.lightCount;
        }
    }

    // ---- texts

    public int feed(int letter) {
        if (!between(letter, 0, 255)) {
            return BAD;
        }
        if (reader.size >= TAPE) {
            return FULL;
        }
        reader.append(letter);
        return reader.size;
    }

    public int text() {
        if (ruleCount >= rules.length) {
            return FULL;
        }
        int fault = reader.read(rules[ruleCount]);
        reader.empty();
        if (fault >= 0) {
            return FAULT_BASE - fault;
        }
        ruleCount++;
        return ruleCount - 1;
    }

    public int force(int text) {
        if (!between(text, 0, ruleCount - 1)) {
            return BAD;
        }
        int was = sky.rule;
        sky.rule = text;
        return was;
    }

    // ---- what is owed, paid

    public int owes(int looker, int light, int what) {
        if (!isLooker(looker) || !isLight(light)) {
            return BAD;
        }
        openBill(looker);
        if (what == 0) {
            return bill.owed(light);
        }
        if (what == 1) {
            return bill.nightsOf(light);
        }
        if (!between(what, 10, 10 + NIGHTS - 1)) {
            return BAD;
        }
        return bill.dueFor(light, what - 10);
    }

    public int all(int what) {
        switch (what) {
            case 0:
                return allTogether(sky.clouds);
            case 1:
                return whoOwesMost();
            case 2:
                return sky.worth();
            default:
                return BAD;
        }
    }

    public int pieces(int x, int what) {
        if (!between(x, 0, MOST_TO_PAY) || !between(what, 0, 2)) {
            return BAD;
        }
        purse.seek(x, sky.bright, sky.many);
        if (what == 0) {
            return purse.fewest >= 0 ? 1 : 0;
        }
        return what == 1 ? purse.fewest : x - purse.shortBy;
    }

    public int pay(int looker) {
        if (!isLooker(looker)) {
            return BAD;
        }
        int due = allOf(looker, sky.clouds);
        if (due > MOST_TO_PAY) {
            return STATE;
        }
        purse.seek(due, sky.bright, sky.many);
        if (purse.fewest < 0) {
            return STATE;
        }
        for (int sort = 0; sort < SORTS; sort++) {
            sky.many[sort] -= purse.way[sort];
        }
        sky.paid[looker] += due;
        return purse.fewest;
    }

    private int whoOwesMost() {
        int who = 0;
        int most = allOf(0, sky.clouds);
        for (int looker = 1; looker < LOOKERS; looker++) {
            int due = allOf(looker, sky.clouds);
            if (due > most) {
                who = looker;
                most = due;
            }
        }
        return who;
    }

    // ---- what would be best

    public int cheapest(int looker, int light, int what) {
        if (!isLooker(looker) || !isLight(light) || !between(what, 0, 1)) {
            return BAD;
        }
        openBill(looker);
        int seen = bill.seen[light];
        int taken = seen | bill.clouds;
        int best = NONE;
        int least = NONE;
        for (int night = 0; night < NIGHTS; night++) {
            if ((taken >> night & 1) == 0) {
                bill.seen[light] = seen | 1 << night;
                int sum = bill.sum();
                if (best == NONE || sum < least) {
                    best = night;
                    least = sum;
                }
            }
        }
        return what == 0 ? best : least;
    }

    public int leave(int looker, int what) {
        if (!isLooker(looker) || !between(what, 0, 1)) {
            return BAD;
        }
        openBill(looker);
        int best = NONE;
        int least = bill.sum();
        for (int light = 0; light < sky.lightCount && light < LIGHTS; light++) {
            int seen = bill.seen[light];
            bill.seen[light] = 0;
            int sum = bill.sum();
            bill.seen[light] = seen;
            if (sum < least) {
                best = light;
                least = sum;
            }
        }
        return what == 0 ? best : least;
    }

    public int farm(int looker, int k) {
        if (!isLooker(looker) || !between(k, 0, MOST_ASKED)) {
            return BAD;
        }
        for (int night = 0; night < NIGHTS; night++) {
            openBill(looker);
            bill.keepNights((2 << night) - 1);
            if (bill.sum() >= k) {
                return night;
            }
        }
        return NONE;
    }

    public int walk(int mile, int k, int what) {
        if (!between(mile, 0, MOST_MILE) || !between(k, 0, MOST_ASKED) || !between(what, 0, 2)) {
            return BAD;
        }
        int owing = whoOwe(k);
        if (what == 2) {
            return Integer.bitCount(owing);
        }
        if (owing == 0) {
            return what == 0 ? 0 : NONE;
        }
        int least = MOST_MILE;
        int most = 0;
        for (int looker = 0; looker < LOOKERS; looker++) {
            if ((owing >> looker & 1) == 1) {
                least = Math.min(least, sky.miles[looker]);
                most = Math.max(most, sky.miles[looker]);
            }
        }
        int toLeast = Math.abs(mile - least);
        int toMost = Math.abs(mile - most);
        if (what == 0) {
            return Math.min(toLeast, toMost) + most - least;
        }
        return firstAt(toLeast <= toMost ? least : most, owing);
    }

    /** The lookers whose all is k or more, as bits. */
    private int whoOwe(int k) {
        int owing = 0;
        for (int looker = 0; looker < LOOKERS; looker++) {
            if (allOf(looker, sky.clouds) >= k) {
                owing |= 1 << looker;
            }
        }
        return owing;
    }

    private int firstAt(int mile, int lookers) {
        for (int looker = 0; looker < LOOKERS; looker++) {
            if ((lookers >> looker & 1) == 1 && sky.miles[looker] == mile) {
                return looker;
            }
        }
        return NONE;
    }

    // ---- dues that were told

    public int tells(int sheet, int looker, int what) {
        boolean ofLight = between(what, 10, 49);
        if (!isSheet(sheet) || !isLooker(looker) || !ofLight && !between(what, 0, 2)) {
            return BAD;
        }
        if (ofLight && !isLight(what % 10)) {
            return BAD;
        }
        Row row = rows[sheet];
        if (row.sort == MISSING) {
            return NOTHING;
        }
        if (row.size != sky.lightCount) {
            return BAD;
        }
        openBill(looker);
        switch (what) {
            case 0:
                return bill.firstOtherwise(row, NONE);
            case 1:
                return textsThatFit(row);
            case 2:
                return cloudsThatFit(row);
            default:
                return traitsThatFit(row, what % 10, what / 10);
        }
    }

    private int textsThatFit(Row row) {
        int bits = 0;
        for (int text = 0; text < ruleCount; text++) {
            bill.rule = ruleOf(text);
            if (bill.firstOtherwise(row, NONE) == NONE) {
                bits |= 1 << text;
            }
        }
        return bits;
    }

    private int cloudsThatFit(Row row) {
        int bits = 0;
        for (int night = 0; night <= NIGHTS; night++) {
            bill.clouds = night == NIGHTS ? 0 : 1 << night;
            if (bill.firstOtherwise(row, NONE) == NONE) {
                bits |= 1 << night;
            }
        }
        return bits;
    }

    /** By sort: bits of kinds (1), of numbers (2), how many years (3), the least (4). */
    private int traitsThatFit(Row row, int light, int sort) {
        int[] trait = sort == 1 ? bill.kinds : sort == 2 ? bill.numbers : bill.years;
        int least = sort <= 2 ? 0 : 1;
        int most = sort == 1 ? KINDS - 1 : sort == 2 ? MOST_NUMBER : MOST_YEARS;
        int bits = 0;
        int many = 0;
        int first = NONE;
        // What a light's traits are tells nothing of the other lights: they are looked at once.
        boolean othersFit = bill.firstOtherwise(row, light) == NONE;
        for (int v = least; othersFit && light < trait.length && v <= most; v++) {
            trait[light] = v;
            if (bill.owed(light) == row.item(light)) {
                bits |= sort <= 2 ? 1 << v : 0;
                first = many == 0 ? v : first;
                many++;
            }
        }
        return sort <= 2 ? bits : sort == 3 ? many : first;
    }

    public int film(int sheet, int looker) {
        if (!isSheet(sheet) || !isLooker(looker)) {
            return BAD;
        }
        Row row = rows[sheet];
        row.become(INTS, sky.lightCount);
        openBill(looker);
        for (int light = 0; light < sky.lightCount; light++) {
            row.put(light, bill.owed(light));
        }
        return sky.lightCount;
    }

    public int drawn(int seed) {
        return allTogether(cloudsBy(seed));
    }

    public long chance(int seed, int m, int k, int part) {
        if (!between(m, 1, MOST_SEEDS) || !between(k, 0, MOST_ASKED) || !between(part, 0, 1)) {
            return NO;
        }
        int those = 0;
        for (int i = 0; i < m; i++) {
            if (allTogether(cloudsBy(seed + i)) >= k) {
                those++;
            }
        }
        return part == 0 ? lowest(those, m) : lowest(m, those);
    }

    private static int cloudsBy(int seed) {
        int z = seed;
        int clouds = 0;
        for (int night = 0; night < NIGHTS; night++) {
            z = z * 1103515245 + 12345;
            if ((z >>> 9) % 3 == 0) {
                clouds |= 1 << night;
            }
        }
        return clouds;
    }

    /** What becomes of a number, when it and another one are brought to lowest terms. */
    private static int lowest(int v, int other) {
        for (int d = Math.max(v, other); d > 1; d--) {
            if (v % d == 0 && other % d == 0) {
                return v / d;
            }
        }
        return v;
    }

    public int image() {
        kept.become(sky);
        hasImage = true;
        return sky.lightCount;
    }

    public int back() {
        if (!hasImage) {
            return STATE;
        }
        sky.become(kept);
        return sky.lightCount;
    }

    public int count(int what) {
        switch (what) {
            case 0:
                return sky.lightCount;
            case 1:
                return Integer.bitCount(sky.clouds);
            case 2:
                return sky.pieceCount();
            case 3:
                return ruleCount;
            case 4:
                return reader.size;
            case 5:
                return sky.rule;
            default:
                return BAD;
        }
    }

    // ---- the host

    public int sheet(int sheet, int sort, int n) {
        if (!isSheet(sheet) || !between(sort, MISSING, INTS)) {
            return BAD;
        }
        if (sort == MISSING) {
            rows[sheet].become(MISSING, 0);
            return 1;
        }
        if (n > ITEMS) {
            return BAD;
        }
        if (n < 0) {
            return BELOW;
        }
        rows[sheet].become(sort, n);
        return 1;
    }

    public int cell(int sheet, int i, int v) {
        if (!isSheet(sheet)) {
            return BAD;
        }
        Row row = rows[sheet];
        if (row.sort == MISSING) {
            return NOTHING;
        }
        if (i < 0 || i >= row.size) {
            return OUTSIDE;
        }
        row.put(i, v);
        return 1;
    }

    public int copy(int sheet, int i, int other, int j, int n) {
        if (!isSheet(sheet) || !isSheet(other)) {
            return BAD;
        }
        Row from = rows[sheet];
        Row to = rows[other];
        if (from.sort == MISSING || to.sort == MISSING) {
            return NOTHING;
        }
        if (from.sort != to.sort) {
            return UNLIKE;
        }
        if (!from.has(i, n) || !to.has(j, n)) {
            return OUTSIDE;
        }
        System.arraycopy(from.items, i, to.items, j, n);
        return n;
    }

    public int lights(int sheet, int sort, int from, int n) {
        if (!isSheet(sheet) || !between(sort, BYTES, INTS) || !between(n, 0, LIGHTS)) {
            return BAD;
        }
        Row row = rows[sheet];
        if (row.sort != MISSING && row.sort != sort) {
            return UNLIKE;
        }
        if (row.sort == MISSING) {
            return NOTHING;
        }
        int came = 0;
        for (int i = 0; i < n; i++) {
            // The first one asks whether from is a place at all, so that this doesn't wrap.
            int place = from + 3 * i;
            if (!row.has(place, 3)) {
                return OUTSIDE;
            }
            if (light(row.item(place), row.item(place + 1), row.item(place + 2)) >= 0) {
                came++;
            }
        }
        return came;
    }

    public int taken(int light, int k) {
        if (!between(k, 0, KINDS - 1)) {
            return BAD;
        }
        if (!isLight(light)) {
            return NOTHING;
        }
        int kind = sky.kinds[light];
        for (int i = 0; i < KINDS && kind >= 0 && kind < UNDER.length; i++) {
            if (kind == k) {
                return sky.numbers[light];
            }
            kind = UNDER[kind];
        }
        return UNLIKE;
    }

    // ---- what several calls use

    private static boolean between(int v, int least, int most) {
        return v >= least && v <= most;
    }

    private static boolean isLooker(int looker) {
        return looker >= 0 && looker < LOOKERS;
    }

    private static boolean isSheet(int sheet) {
        return sheet >= 0 && sheet < SHEETS;
    }

    private boolean isLight(int light) {
        return light >= 0 && light < sky.lightCount && light < LIGHTS;
    }

    private Rule ruleOf(int text) {
        return text >= 0 && text < rules.length ? rules[text] : rules[0];
    }

    /** Lays a looker's bill out as things are; the caller may then change it, not the sky. */
    private void openBill(int looker) {
        bill.open(sky, looker, ruleOf(sky.rule));
    }

    private int allOf(int looker, int clouds) {
        openBill(looker);
        bill.clouds = clouds;
        return Math.max(bill.sum() - sky.paid[looker], 0);
    }

    private int allTogether(int clouds) {
        int together = 0;
        for (int looker = 0; looker < LOOKERS; looker++) {
            together += allOf(looker, clouds);
        }
        return together;
    }

    /** All that an image keeps. */
    private static final class Sky {
        int clouds;
        int rule;
        int lightCount;
        final int[] kinds = new int[LIGHTS];
        final int[] numbers = new int[LIGHTS];
        final int[] years = new int[LIGHTS];
        /** The nights of looker l and light i, as bits, at l * LIGHTS + i. */
        final int[] seen = new int[LOOKERS * LIGHTS];
        final int[] miles = new int[LOOKERS];
        final int[] paid = new int[LOOKERS];
        final int[] bright = new int[SORTS];
        final int[] many = new int[SORTS];

        void become(Sky other) {
            clouds = other.clouds;
            rule = other.rule;
            lightCount = other.lightCount;
            System.arraycopy(other.kinds, 0, kinds, 0, LIGHTS);
            System.arraycopy(other.numbers, 0, numbers, 0, LIGHTS);
            System.arraycopy(other.years, 0, years, 0, LIGHTS);
            System.arraycopy(other.seen, 0, seen, 0, LOOKERS * LIGHTS);
            System.arraycopy(other.miles, 0, miles, 0, LOOKERS);
            System.arraycopy(other.paid, 0, paid, 0, LOOKERS);
            System.arraycopy(other.bright, 0, bright, 0, SORTS);
            System.arraycopy(other.many, 0, many, 0, SORTS);
        }

        /** The new light's number; FULL. */
        int addLight(int kind, int number, int ofYears) {
            int light = lightCount;
            if (light < 0 || light >= LIGHTS) {
                return FULL;
            }
            kinds[light] = kind;
            numbers[light] = number;
            years[light] = ofYears;
            for (int looker = 0; looker < LOOKERS; looker++) {
                seen[looker * LIGHTS + light] = 0;
            }
            lightCount = light + 1;
            return light;
        }

        int pieceCount() {
            int pieces = 0;
            for (int sort = 0; sort < SORTS; sort++) {
                pieces += many[sort];
            }
            return pieces;
        }

        int worth() {
            int sum = 0;
            for (int sort = 0; sort < SORTS; sort++) {
                sum += bright[sort] * many[sort];
            }
            return sum;
        }
    }

    /** What one looker owes for which light, as things are or as they would be. */
    private static final class Bill {
        int clouds;
        Rule rule;
        final int[] kinds = new int[LIGHTS];
        final int[] numbers = new int[LIGHTS];
        final int[] years = new int[LIGHTS];
        final int[] seen = new int[LIGHTS];
        private int lightCount;
        private final int[] names = new int[NAMES];
        private final int[] stack = new int[STACK];

        Bill(Rule by) {
            rule = by;
        }

        void open(Sky sky, int looker, Rule by) {
            clouds = sky.clouds;
            rule = by;
            lightCount = Math.min(sky.lightCount, LIGHTS);
            for (int light = 0; light < LIGHTS; light++) {
                kinds[light] = sky.kinds[light];
                numbers[light] = sky.numbers[light];
                years[light] = sky.years[light];
                int place = looker * LIGHTS + light;
                seen[light] = place >= 0 && place < sky.seen.length ? sky.seen[place] : 0;
            }
        }

        void keepNights(int nights) {
            for (int light = 0; light < LIGHTS; light++) {
                seen[light] &= nights;
            }
        }

        int lightsSeen() {
            int many = 0;
            for (int light = 0; light < lightCount; light++) {
                if ((seen[light] & ~clouds) != 0) {
                    many++;
                }
            }
            return many;
        }

        int nightsOf(int light) {
            return light >= 0 && light < LIGHTS ? Integer.bitCount(seen[light] & ~clouds) : 0;
        }

        int sum() {
            int sum = 0;
            for (int light = 0; light < lightCount; light++) {
                sum += owed(light);
            }
            return sum;
        }

        /** The first light, but for one, for which a row tells another number; NONE. */
        int firstOtherwise(Row row, int butFor) {
            for (int light = 0; light < lightCount; light++) {
                if (light != butFor && owed(light) != row.item(light)) {
                    return light;
                }
            }
            return NONE;
        }

        int owed(int light) {
            if (light < 0 || light >= LIGHTS) {
                return 0;
            }
            int nights = seen[light] & ~clouds;
            if (nights == 0) {
                return 0;
            }
            int k = giveNames(light);
            int sum = 0;
            int due = NONE;
            for (int night = 0; night < NIGHTS; night++) {
                if ((nights >> night & 1) == 1) {
                    if (due == NONE || rule.namesNight) {
                        names[NIGHT_NAME] = night;
                        due = due(light, k, rule.tell(DUES, names, stack));
                    }
                    sum += due;
                }
            }
            names[NIGHT_NAME] = 0;
            if (k > MANY_NIGHTS) {
                sum += extra(light, k, rule.tell(EXTRAS, names, stack));
            }
            sum -= off(light, rule.tell(OFFS, names, stack));
            return Math.max(sum, 0);
        }

        int dueFor(int light, int night) {
            if (light < 0 || light >= LIGHTS) {
                return 0;
            }
            int k = giveNames(light);
            names[NIGHT_NAME] = night;
            return due(light, k, rule.tell(DUES, names, stack));
        }

        /** Gives the names of a text their values, but for the night; how many nights count. */
        private int giveNames(int light) {
            int k = Integer.bitCount(seen[light] & ~clouds);
            names[YEARS_NAME] = years[light];
            names[NIGHTS_NAME] = k;
            names[NUMBER_NAME] = numbers[light];
            names[NIGHT_NAME] = 0;
            names[CLOUDY_NAME] = Integer.bitCount(clouds);
            names[LIGHTS_NAME] = lightsSeen();
            return k;
        }

        private int due(int light, int k, int told) {
            int v = bounded(told, MOST_TOLD);
            switch (kinds[light]) {
                case TWIN:
                    return bounded(2 * v, MOST_DUE);
                case RED:
                    return bounded(v / 2, MOST_DUE);
                case COMET:
                    return k >= numbers[light] ? 0 : bounded(2 * v, MOST_DUE);
                case GIANT:
                    return bounded(v / 2 + years[light] / 100, MOST_DUE);
                case LAMP:
                    return 1;
                default:
                    return bounded(v, MOST_DUE);
            }
        }

        private int off(int light, int told) {
            int v = bounded(told, MOST_TOLD);
            switch (kinds[light]) {
                case RED:
                case GIANT:
                    return bounded(v + numbers[light], MOST_DUE);
                case COMET:
                    return 0;
                default:
                    return bounded(v, MOST_DUE);
            }
        }

        private int extra(int light, int k, int told) {
            int v = bounded(told, MOST_TOLD);
            switch (kinds[light]) {
                case TWIN:
                case COMET:
                    return bounded(v + k, MOST_DUE);
                case GIANT:
                    return bounded(2 * v, MOST_DUE);
                case LAMP:
                    return 0;
                default:
                    return bounded(v, MOST_DUE);
            }
        }

        private static int bounded(int v, int most) {
            return v < 0 ? 0 : v > most ? most : v;
        }
    }

    /** A text as it was read: numbers, names and signs, each sign behind what it is for. */
    private static final class Rule {
        boolean namesNight;
        /** A number is itself, name i is -1 - i, a sign or key is its token below 0. */
        private final int[] code = new int[TAPE];
        private final int[] ends = new int[PARTS];
        private int size;

        void empty() {
            size = 0;
            namesNight = false;
        }

        void add(int number) {
            if (size >= 0 && size < code.length) {
                code[size] = number;
                size++;
            }
        }

        void addName(int name) {
            namesNight |= name == NIGHT_NAME;
            add(-1 - name);
        }

        void addSign(int token) {
            add(-token);
        }

        void endPart(int part) {
            if (part >= 0 && part < ends.length) {
                ends[part] = size;
            }
        }

        int tell(int part, int[] names, int[] stack) {
            if (part < 0 || part >= ends.length) {
                return 0;
            }
            int top = 0;
            for (int i = part == 0 ? 0 : ends[part - 1]; i < ends[part] && i < code.length; i++) {
                int c = code[i];
                if (c >= -names.length) {
                    if (top >= stack.length) {
                        return 0;
                    }
                    stack[top] = c >= 0 ? c : names[-1 - c];
                    top++;
                } else if (c == -NOT || c == -NEGATE) {
                    if (top < 1) {
                        return 0;
                    }
                    stack[top - 1] = c == -NEGATE ? -stack[top - 1] : stack[top - 1] == 0 ? 1 : 0;
                } else {
                    if (top < 2) {
                        return 0;
                    }
                    top--;
                    stack[top - 1] = joined(-c, stack[top - 1], stack[top]);
                }
            }
            return top > 0 ? stack[top - 1] : 0;
        }

        private static int joined(int token, int a, int b) {
            switch (token) {
                case OR:
                    return a != 0 || b != 0 ? 1 : 0;
                case AND:
                    return a != 0 && b != 0 ? 1 : 0;
                case '<':
                    return a < b ? 1 : 0;
                case '=':
                    return a == b ? 1 : 0;
                case '+':
                    return a + b;
                case '-':
                    return a - b;
                default:
                    return a * b;
            }
        }
    }

    /** The tape, and how a text is read from it. */
    private static final class Reader {
        int size;
        private final int[] tape = new int[TAPE];
        private Rule rule;
        private int fault;
        private int place;
        private int next;
        private int token;
        private int value;

        Reader(Rule into) {
            rule = into;
        }

        void append(int letter) {
            if (size >= 0 && size < tape.length) {
                tape[size] = letter;
                size++;
            }
        }

        void empty() {
            size = 0;
        }

        /** Reads the tape into a rule; the place of its fault, NONE if it has none. */
        int read(Rule into) {
            rule = into;
            rule.empty();
            fault = NONE;
            next = 0;
            advance();
            for (int part = 0; part < PARTS; part++) {
                expect(DUES_KEY + part);
                readEither(0);
                expect(';');
                rule.endPart(part);
            }
            if (token != END) {
                fail();
            }
            return fault;
        }

        // What reads a part of a text is told how many ( not - are open there.

        private void readEither(int open) {
            readBoth(open);
            for (int i = 0; i < TAPE && token == OR; i++) {
                advance();
                readBoth(open);
                rule.addSign(OR);
            }
        }

        private void readBoth(int open) {
            readNot(open);
            for (int i = 0; i < TAPE && token == AND; i++) {
                advance();
                readNot(open);
                rule.addSign(AND);
            }
        }

        private void readNot(int open) {
            if (token == NOT) {
                if (opens(open)) {
                    readNot(open + 1);
                    rule.addSign(NOT);
                }
                return;
            }
            readSum(open);
            if (token == '<' || token == '=') {
                int sign = token;
                advance();
                readSum(open);
                rule.addSign(sign);
            }
        }

        private void readSum(int open) {
            readTerm(open);
            for (int i = 0; i < TAPE && (token == '+' || token == '-'); i++) {
                int sign = token;
                advance();
                readTerm(open);
                rule.addSign(sign);
            }
        }

        private void readTerm(int open) {
            readOne(open);
            for (int i = 0; i < TAPE && token == '*'; i++) {
                advance();
                readOne(open);
                rule.addSign('*');
            }
        }

        private void readOne(int open) {
            if (token == NUMBER_TOKEN) {
                rule.add(value);
                advance();
            } else if (token == NAME_TOKEN) {
                rule.addName(value);
                advance();
            } else if (token == '-') {
                if (opens(open)) {
                    readOne(open + 1);
                    rule.addSign(NEGATE);
                }
            } else if (token == '(') {
                if (opens(open)) {
                    readEither(open + 1);
                    expect(')');
                }
            } else {
                fail();
            }
        }

        /** Goes past a token that opens, if so many may be open; a fault, if not. */
        private boolean opens(int open) {
            if (open >= MOST_OPEN) {
                fail();
                return false;
            }
            advance();
            return true;
        }

        private void expect(int wanted) {
            if (token == wanted) {
                advance();
            } else {
                fail();
            }
        }

        /** From the first fault on the token is wrong, so that nothing more is read. */
        private void fail() {
            if (fault == NONE) {
                fault = place;
            }
            token = WRONG;
        }

        private void advance() {
            if (fault != NONE) {
                token = WRONG;
                return;
            }
            while (next < size && (byteAt(next) == ' ' || byteAt(next) == '\n')) {
                next++;
            }
            place = next;
            int first = byteAt(next);
            if (first == NONE) {
                token = END;
            } else if (isLetter(first)) {
                readWord();
            } else if (isDigit(first)) {
                readNumber();
            } else {
                next++;
                token = isSign(first) ? first : WRONG;
            }
        }

        private void readNumber() {
            value = 0;
            while (next < size && isDigit(byteAt(next))) {
                value = value * 10 + byteAt(next) - '0';
                next++;
            }
            token = next - place > MOST_DIGITS ? WRONG : NUMBER_TOKEN;
        }

        private void readWord() {
            while (next < size && isLetter(byteAt(next))) {
                next++;
            }
            value = 0;
            int start = 0;
            token = WRONG;
            for (int i = 0; i < WORDS.length() && token == WRONG; i++) {
                if (WORDS.charAt(i) == ' ') {
                    if (isWord(start, i)) {
                        token = value < NAMES ? NAME_TOKEN : value;
                    } else {
                        value++;
                        start = i + 1;
                    }
                }
            }
        }

        /** Is the word that was just read that of WORDS from start to end? */
        private boolean isWord(int start, int end) {
            if (end - start != next - place) {
                return false;
            }
            for (int i = start; i < end && i < WORDS.length(); i++) {
                if (WORDS.charAt(i) != byteAt(place + i - start)) {
                    return false;
                }
            }
            return true;
        }

        /** NONE, where the tape has no byte. */
        private int byteAt(int i) {
            return i >= 0 && i < size && i < tape.length ? tape[i] : NONE;
        }

        private static boolean isLetter(int c) {
            return c >= 'a' && c <= 'z';
        }

        private static boolean isDigit(int c) {
            return c >= '0' && c <= '9';
        }

        private static boolean isSign(int c) {
            return c == '(' || c == ')' || c == ';' || c == '+' || c == '-' || c == '*'
                    || c == '<' || c == '=';
        }
    }

    /** How a sum can be paid with pieces. */
    private static final class Purse {
        /** How many pieces are the fewest; NONE: the sum can't be paid. */
        int fewest;
        /** How much the nearest sum that can be paid falls short. */
        int shortBy;
        /** How many of each sort, the fewest being taken. */
        final int[] way = new int[SORTS];

        /** Goes from most of sort 3 down, so that of ways with as few pieces the first is due. */
        void seek(int x, int[] bright, int[] many) {
            fewest = NONE;
            shortBy = x;
            if (bright.length < SORTS || many.length < SORTS) {
                return;
            }
            for (int d = most(3, x, bright, many); d >= 0; d--) {
                int afterD = x - d * bright[3];
                for (int c = most(2, afterD, bright, many); c >= 0; c--) {
                    int afterC = afterD - c * bright[2];
                    for (int b = most(1, afterC, bright, many); b >= 0; b--) {
                        int afterB = afterC - b * bright[1];
                        int a = most(0, afterB, bright, many);
                        int left = afterB - a * bright[0];
                        shortBy = Math.min(shortBy, left);
                        if (left == 0 && (fewest == NONE || a + b + c + d < fewest)) {
                            keep(a, b, c, d);
                        }
                    }
                }
            }
        }

        private void keep(int a, int b, int c, int d) {
            way[0] = a;
            way[1] = b;
            way[2] = c;
            way[3] = d;
            fewest = a + b + c + d;
        }

        private static int most(int sort, int x, int[] bright, int[] many) {
            if (bright[sort] < 1) {
                return 0;
            }
            return Math.min(many[sort], x / bright[sort]);
        }
    }

    /** A sheet: a row of numbers of a sort, or missing. */
    private static final class Row {
        int sort = MISSING;
        int size;
        final int[] items = new int[ITEMS];

        void become(int ofSort, int n) {
            sort = ofSort;
            size = Math.max(Math.min(n, ITEMS), 0);
            for (int i = 0; i < ITEMS; i++) {
                items[i] = 0;
            }
        }

        /** Are i and the n - 1 behind it places of the row? (No sum of them: it could wrap.) */
        boolean has(int i, int n) {
            return i >= 0 && n >= 0 && i <= size && n <= size - i;
        }

        int item(int i) {
            return i >= 0 && i < size && i < items.length ? items[i] : 0;
        }

        void put(int i, int v) {
            if (i < 0 || i >= size || i >= items.length) {
                return;
            }
            items[i] = sort == BYTES ? (byte) v : sort == SHORTS ? (short) v : v;
        }
    }
}
