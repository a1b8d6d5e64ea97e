/** Short ways to tell an object what a test needs. */
final class Told {
    private Told() {
    }

    /** Feeds the tape; what the last feed() answered (0 for no byte at all). */
    static int feed(LightYearsAreOwed x, String letters) {
        int size = 0;
        for (int i = 0; i < letters.length(); i++) {
            size = x.feed(letters.charAt(i));
        }
        return size;
    }

    static int text(LightYearsAreOwed x, String letters) {
        feed(x, letters);
        return x.text();
    }

    /** A new object whose rule is a text of these three. */
    static LightYearsAreOwed by(String dues, String offs, String extras) {
        LightYearsAreOwed x = new LightYearsAreOwed();
        x.force(text(x, "dues " + dues + ";offs " + offs + ";extras " + extras + ";"));
        return x;
    }

    /** Makes a text the rule by which dues are as told, nothing off, nothing extra. */
    static void dues(LightYearsAreOwed x, String expression) {
        x.force(text(x, "dues " + expression + ";offs 0;extras 0;"));
    }

    static void row(LightYearsAreOwed x, int sheet, int sort, int... items) {
        x.sheet(sheet, sort, items.length);
        for (int i = 0; i < items.length; i++) {
            x.cell(sheet, i, items[i]);
        }
    }
}
