/** Promises 1 to 5 at their edges: a test for each sentence that names one. */
public final class EdgesOfLightsTest {
    private static final Check CHECK = new Check("EdgesOfLightsTest");
    private static final Edge EDGE = new Edge(CHECK);
    private static final int BAD = -2, FULL = -4;
    private static final int[] FAR = {-1, 6, Integer.MIN_VALUE, Integer.MAX_VALUE};

    public static void main(String[] args) {
        noLightsAtFirst();
        nothingOwedAtFirst();
        whatStandsAtFirst();
        setWhat();
        setClouds();
        setNumber();
        setYears();
        setMile();
        setBright();
        setMany();
        setOfAnyLightThatCame();
        lightBounds();
        lightFull();
        lightRefusedTakesNoPlace();
        lightBadAheadOfFull();
        lookBounds();
        lookNoneAtFirst();
        lookNoneAsALightComes();
        lookJustThose();
        toldWhat();
        toldOf();
        toldOfAnyLightThatCame();
        CHECK.end();
    }

    /** Lights of number 3 and 40 years; clouds 77; miles 8; pieces so bright as 7, 6 of each. */
    private static LightYearsAreOwed withLights(int n) {
        LightYearsAreOwed x = new LightYearsAreOwed();
        for (int i = 0; i < n; i++) {
            x.light(0, 3, 40);
        }
        x.set(0, 0, 77);
        for (int i = 0; i < 5; i++) {
            x.set(3, i, 8);
        }
        for (int i = 0; i < 4; i++) {
            x.set(4, i, 7);
            x.set(5, i, 6);
        }
        return x;
    }

    /** "No LIGHTS": none that any call could be about. */
    private static void noLightsAtFirst() {
        LightYearsAreOwed x = new LightYearsAreOwed();
        CHECK.due("1: how many", x.count(0), 0);
        CHECK.due("1: set its number", x.set(1, 0, 0), BAD);
        CHECK.due("1: set its years", x.set(2, 0, 1), BAD);
        CHECK.due("1: look", x.look(0, 0, 0), BAD);
        CHECK.due("1: its number", x.told(0, 1), BAD);
        CHECK.due("1: its years", x.told(0, 2), BAD);
        CHECK.due("1: its kind", x.told(0, 6), BAD);
        CHECK.due("1: owes", x.owes(0, 0, 0), BAD);
        CHECK.due("1: cheapest", x.cheapest(0, 0, 0), BAD);
        CHECK.due("1: taken", x.taken(0, 0), -11);
        CHECK.due("1: the first that comes is 0", x.light(0, 0, 1), 0);
    }

    private static void nothingOwedAtFirst() {
        LightYearsAreOwed x = new LightYearsAreOwed();
        for (int one = 0; one < 5; one++) {
            CHECK.due("1: all of " + one, x.told(one, 8), 0);
            CHECK.due("1: lights of " + one, x.told(one, 9), 0);
            CHECK.due("1: pays " + one, x.pay(one), 0);
            CHECK.due("1: leaves none " + one, x.leave(one, 0), -1);
            CHECK.due("1: a farm for 0, " + one, x.farm(one, 0), 0);
            CHECK.due("1: a farm for 1, " + one, x.farm(one, 1), -1);
            CHECK.due("1: a film of none " + one, x.film(0, one), 0);
        }
        CHECK.due("1: together", x.all(0), 0);
        CHECK.due("1: most", x.all(1), 0);
        CHECK.due("1: can be paid", x.all(2), 0);
        CHECK.due("1: drawn", x.drawn(3), 0);
        CHECK.due("1: an image of none", x.image(), 0);
    }

    /** "none at first", "0 at first", "1, 5, 10, 50 at first", "missing (as all are at first)". */
    private static void whatStandsAtFirst() {
        LightYearsAreOwed x = new LightYearsAreOwed();
        CHECK.due("1: clouds", x.told(0, 0), 0);
        int[] bright = {1, 5, 10, 50};
        for (int sort = 0; sort < 4; sort++) {
            CHECK.due("1: so bright is " + sort, x.told(sort, 4), bright[sort]);
            CHECK.due("1: so many are " + sort, x.told(sort, 5), 0);
            CHECK.due("1: a sheet is missing " + sort, x.cell(sort, 0, 0), -11);
        }
        for (int one = 0; one < 5; one++) {
            CHECK.due("1: mile of " + one, x.told(one, 3), 0);
            CHECK.due("1: paid by " + one, x.told(one, 7), 0);
        }
        CHECK.due("1: no image", x.back(), -3);
        CHECK.due("1: text 0 alone", x.count(3), 1);
        CHECK.due("1: it is the rule", x.count(5), 0);
        CHECK.due("1: an empty tape", x.feed(32), 1);
    }

    /** What told() tells behind a set(). */
    private static int then(LightYearsAreOwed x, int what, int of, int v) {
        x.set(what, of, v);
        return x.told(of, what);
    }

    /** Set answers what was; told() then tells v, or what was, if v is refused. */
    private static void takes(String name, int what, int of, int least, int most, int was) {
        EDGE.bounds("2: " + name, v -> withLights(6).set(what, of, v), least, was, most, was, BAD);
        EDGE.bounds("2: " + name + " then", v -> then(withLights(6), what, of, v),
                least, least, most, most, was);
    }

    /** As takes(), of 0 up to the last of those that have one. */
    private static void takesOf(String name, int what, int last, int least, int most, int was) {
        takes(name, what, 0, least, most, was);
        takes(name, what, last, least, most, was);
        EDGE.bounds("2: " + name + " of", v -> withLights(6).set(what, v, 5), 0, was, last, was, BAD);
    }

    private static void setWhat() {
        EDGE.bounds("2: what", v -> withLights(6).set(v, 0, 1), 0, 77, 5, 6, BAD);
        EDGE.refused("2: what that told() takes alone", v -> withLights(6).set(v, 0, 1), BAD,
                6, 7, 8, 9);
    }

    private static void setClouds() {
        takes("clouds", 0, 0, 0, 4095, 77);
        for (int of : FAR) {
            CHECK.due("2: of clouds, of does not matter, " + of, withLights(0).set(0, of, 5), 77);
            CHECK.due("2: 4096 is BAD whatever of is, " + of, withLights(0).set(0, of, 4096), BAD);
        }
        for (int night = 0; night < 12; night++) {
            CHECK.due("2: a cloud in night " + night, then(withLights(0), 0, 0, 1 << night),
                    1 << night);
        }
    }

    private static void setNumber() {
        takesOf("number", 1, 5, 0, 9, 3);
    }

    private static void setYears() {
        takesOf("years", 2, 5, 1, 999, 40);
    }

    private static void setMile() {
        takesOf("mile", 3, 4, 0, 99, 8);
    }

    private static void setBright() {
        takesOf("bright", 4, 3, 1, 99, 7);
    }

    private static void setMany() {
        takesOf("many", 5, 3, 0, 20, 6);
    }

    private static void setOfAnyLightThatCame() {
        for (int n = 1; n <= 6; n++) {
            CHECK.due("2: number of the last of " + n, withLights(n).set(1, n - 1, 4), 3);
            CHECK.due("2: number behind the last of " + n, withLights(n).set(1, n, 4), BAD);
            CHECK.due("2: years of the last of " + n, withLights(n).set(2, n - 1, 4), 40);
            CHECK.due("2: years behind the last of " + n, withLights(n).set(2, n, 4), BAD);
        }
    }

    /** What told() tells of the light that came, or BAD, if none did. */
    private static int came(int kind, int number, int years, int what) {
        LightYearsAreOwed x = new LightYearsAreOwed();
        return x.told(x.light(kind, number, years), what);
    }

    private static void lightBounds() {
        EDGE.bounds("3: kind", v -> new LightYearsAreOwed().light(v, 0, 1), 0, 0, 5, 0, BAD);
        EDGE.bounds("3: kind then", v -> came(v, 0, 1, 6), 0, 0, 5, 5, BAD);
        EDGE.bounds("3: number", v -> new LightYearsAreOwed().light(0, v, 1), 0, 0, 9, 0, BAD);
        EDGE.bounds("3: number then", v -> came(0, v, 1, 1), 0, 0, 9, 9, BAD);
        EDGE.bounds("3: years", v -> new LightYearsAreOwed().light(0, 0, v), 1, 0, 999, 0, BAD);
        EDGE.bounds("3: years then", v -> came(0, 0, v, 2), 1, 1, 999, 999, BAD);
    }

    /** "6 at most, numbered from 0". */
    private static void lightFull() {
        LightYearsAreOwed x = new LightYearsAreOwed();
        for (int i = 0; i < 6; i++) {
            CHECK.due("3: numbered from 0", x.light(i, 9 - i, 999 - i), i);
        }
        for (int i = 0; i < 3; i++) {
            CHECK.due("3: full, kind " + i, x.light(i, 0, 1), FULL);
        }
        CHECK.due("3: six are there", x.count(0), 6);
        for (int i = 0; i < 6; i++) {
            CHECK.due("3: the kind stays, " + i, x.told(i, 6), i);
            CHECK.due("3: the number stays, " + i, x.told(i, 1), 9 - i);
            CHECK.due("3: the years stay, " + i, x.told(i, 2), 999 - i);
        }
        CHECK.due("3: there is no light 6", x.told(6, 6), BAD);
    }

    private static void lightRefusedTakesNoPlace() {
        LightYearsAreOwed x = new LightYearsAreOwed();
        x.light(2, 4, 6);
        CHECK.due("3: refused", x.light(6, 0, 1) + x.light(0, 10, 1) + x.light(0, 0, 0), 3 * BAD);
        CHECK.due("3: one is there", x.count(0), 1);
        CHECK.due("3: the next is 1", x.light(3, 5, 7), 1);
        CHECK.due("3: the first is as it was", x.told(0, 2), 6);
    }

    private static void lightBadAheadOfFull() {
        LightYearsAreOwed x = withLights(6);
        EDGE.refused("3: BAD ahead of FULL, kind", v -> x.light(v, 0, 1), BAD, -1, 6);
        EDGE.refused("3: BAD ahead of FULL, number", v -> x.light(0, v, 1), BAD, -1, 10);
        EDGE.refused("3: BAD ahead of FULL, years", v -> x.light(0, 0, v), BAD, 0, 1000);
    }

    /** What a look() answers behind another: what that was, or 6, if it was refused. */
    private static int looked(int looker, int light, int nights) {
        LightYearsAreOwed x = withLights(6);
        x.look(4, 5, 6);
        x.look(looker, light, nights);
        return x.look(4, 5, 0);
    }

    private static void lookBounds() {
        EDGE.bounds("4: looker", v -> withLights(6).look(v, 0, 1), 0, 0, 4, 0, BAD);
        EDGE.bounds("4: looker then", v -> looked(v, 5, 9), 0, 6, 4, 9, 6);
        EDGE.bounds("4: light", v -> withLights(6).look(0, v, 1), 0, 0, 5, 0, BAD);
        EDGE.bounds("4: light then", v -> looked(4, v, 9), 0, 6, 5, 9, 6);
        EDGE.bounds("4: nights", v -> withLights(6).look(0, 0, v), 0, 0, 4095, 0, BAD);
        EDGE.bounds("4: nights then", v -> looked(4, 5, v), 0, 0, 4095, 4095, 6);
        for (int n = 1; n <= 6; n++) {
            CHECK.due("4: the last of " + n, withLights(n).look(0, n - 1, 1), 0);
            CHECK.due("4: behind the last of " + n, withLights(n).look(0, n, 1), BAD);
        }
    }

    private static void lookNoneAtFirst() {
        LightYearsAreOwed x = withLights(6);
        for (int one = 0; one < 5; one++) {
            for (int i = 0; i < 6; i++) {
                CHECK.due("4: none at first, " + one + " at " + i, x.look(one, i, 1 << i), 0);
            }
        }
        for (int one = 0; one < 5; one++) {
            for (int i = 0; i < 6; i++) {
                CHECK.due("4: each has its own, " + one + " at " + i, x.look(one, i, 0), 1 << i);
            }
        }
    }

    /** "none as a LIGHT comes": also where one came before and went with back(). */
    private static void lookNoneAsALightComes() {
        LightYearsAreOwed x = new LightYearsAreOwed();
        x.image();
        for (int i = 0; i < 6; i++) {
            x.light(0, 0, 1);
            for (int one = 0; one < 5; one++) {
                x.look(one, i, 4095);
            }
        }
        x.back();
        for (int i = 0; i < 6; i++) {
            x.light(0, 0, 1);
            for (int one = 0; one < 5; one++) {
                CHECK.due("4: none as light " + i + " comes, " + one, x.look(one, i, 1), 0);
            }
        }
    }

    /** "in just those NIGHTS": none of those before. */
    private static void lookJustThose() {
        LightYearsAreOwed x = withLights(1);
        x.look(0, 0, 4095);
        x.look(0, 0, 2048);
        CHECK.due("4: the last night alone", x.look(0, 0, 1), 2048);
        CHECK.due("4: the first night alone", x.look(0, 0, 0), 1);
        CHECK.due("4: no night", x.look(0, 0, 0), 0);
        CHECK.due("4: clouds are none of it", x.told(0, 0), 77);
    }

    /** Light 5 is a lamp of number 2 and 31 years, seen by looker 4 alone. */
    private static LightYearsAreOwed toTell() {
        LightYearsAreOwed x = withLights(5);
        x.light(5, 2, 31);
        x.set(0, 0, 6);
        x.set(3, 4, 99);
        x.look(4, 5, 31);
        return x;
    }

    private static void toldWhat() {
        EDGE.bounds("5: what", v -> toTell().told(4, v), 0, 6, 9, 1, BAD);
        int[] want = {6, 3, 40, 99, BAD, BAD, 0, 0, 3, 1};
        for (int what = 0; what < want.length; what++) {
            CHECK.due("5: told(4, " + what + ")", toTell().told(4, what), want[what]);
        }
    }

    private static void toldOf() {
        LightYearsAreOwed x = toTell();
        for (int of : FAR) {
            CHECK.due("5: of clouds, of does not matter, " + of, x.told(of, 0), 6);
        }
        EDGE.bounds("5: number of", v -> x.told(v, 1), 0, 3, 5, 2, BAD);
        EDGE.bounds("5: years of", v -> x.told(v, 2), 0, 40, 5, 31, BAD);
        EDGE.bounds("5: mile of", v -> x.told(v, 3), 0, 8, 4, 99, BAD);
        EDGE.bounds("5: bright of", v -> x.told(v, 4), 0, 7, 3, 7, BAD);
        EDGE.bounds("5: many of", v -> x.told(v, 5), 0, 6, 3, 6, BAD);
        EDGE.bounds("5: kind of", v -> x.told(v, 6), 0, 0, 5, 5, BAD);
        EDGE.bounds("5: paid of", v -> x.told(v, 7), 0, 0, 4, 0, BAD);
        EDGE.bounds("5: all of", v -> x.told(v, 8), 0, 0, 4, 3, BAD);
        EDGE.bounds("5: lights of", v -> x.told(v, 9), 0, 0, 4, 1, BAD);
    }

    private static void toldOfAnyLightThatCame() {
        for (int n = 1; n <= 6; n++) {
            LightYearsAreOwed x = withLights(n);
            CHECK.due("5: number of the last of " + n, x.told(n - 1, 1), 3);
            CHECK.due("5: number behind the last of " + n, x.told(n, 1), BAD);
            CHECK.due("5: years behind the last of " + n, x.told(n, 2), BAD);
            CHECK.due("5: kind behind the last of " + n, x.told(n, 6), BAD);
        }
        LightYearsAreOwed x = withLights(6);
        x.set(0, 0, 2048);
        for (int i = 0; i < 6; i++) {
            x.look(0, i, 2048 + 1);
            CHECK.due("5: lights seen, " + i, x.told(0, 9), i + 1);
        }
        x.set(0, 0, 2048 + 1);
        CHECK.due("5: in nights that count, none", x.told(0, 9), 0);
    }
}
