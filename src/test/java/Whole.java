import java.util.ArrayList;
import java.util.List;

/** An object with some of everything in it, and all that it can be made to tell of it. */
final class Whole {
    private final LightYearsAreOwed x;
    private final List<String> told = new ArrayList<>();

    private Whole(LightYearsAreOwed x) {
        this.x = x;
    }

    /**
     * Three texts and a piece of another on the tape; three lights, the first of them in the image,
     * if there is one; sheets of bytes, of shorts, of ints that lights can be read from; sheet 3
     * is missing.
     */
    static LightYearsAreOwed made(boolean image) {
        LightYearsAreOwed x = new LightYearsAreOwed();
        Told.text(x, "dues 9+night;offs 1;extras 2;");
        Told.text(x, "dues number;offs 0;extras 7;");
        x.light(4, 2, 450);
        for (int one = 0; one < 5; one++) {
            x.look(one, 0, 5 << one);
            x.set(3, one, 70 - 9 * one);
        }
        x.set(0, 0, 3);
        x.set(4, 1, 6);
        for (int sort = 0; sort < 4; sort++) {
            x.set(5, sort, 4 + sort);
        }
        x.force(2);
        if (image) {
            x.image();
        }
        x.force(1);
        x.light(3, 5, 8);
        x.light(1, 3, 4);
        for (int one = 0; one < 5; one++) {
            x.look(one, 1, 31 << one);
            x.look(one, 2, 1 << one + 7);
        }
        x.set(0, 0, 64 + 1);
        x.set(3, 2, 11);
        x.set(5, 0, 20);
        x.look(4, 1, 0);
        x.pay(4);
        Told.row(x, 0, 0, 1, 2, 3, 4, 5, 6);
        Told.row(x, 1, 1, 2, 3, 4, 5, 6, 7);
        Told.row(x, 2, 2, 3, 4, 5);
        Told.feed(x, "dues 3");
        return x;
    }

    /** Everything, each with the call that told it; the object can't be used for more then. */
    static List<String> told(LightYearsAreOwed x) {
        Whole whole = new Whole(x);
        whole.tellNow();
        whole.tellTexts();
        whole.tell("back()", x.back());
        whole.tellNow();
        whole.tellSheets();
        whole.tellLooks();
        return whole.told;
    }

    private void tell(String call, int answer) {
        told.add(call + " answers " + answer);
    }

    private void tellNow() {
        int lights = x.count(0);
        for (int what = 0; what < 6; what++) {
            tell("count(" + what + ")", x.count(what));
        }
        tell("told(0, 0)", x.told(0, 0));
        for (int what = 1; what < 9; what++) {
            int many = what == 3 || what > 6 ? 5 : what == 4 || what == 5 ? 4 : lights;
            for (int of = 0; of < many; of++) {
                tell("told(" + of + ", " + what + ")", x.told(of, what));
            }
        }
        for (int one = 0; one < 5; one++) {
            for (int light = 0; light < lights; light++) {
                tell("owes(" + one + ", " + light + ", 0)", x.owes(one, light, 0));
                tell("owes(" + one + ", " + light + ", 1)", x.owes(one, light, 1));
            }
        }
    }

    /** Ends the text that is on the tape; then lets each text tell something. */
    private void tellTexts() {
        tell("text()", Told.text(x, ";offs 4;extras 5;"));
        int rule = x.count(5);
        for (int text = 0; text < x.count(3); text++) {
            tell("force(" + text + ")", x.force(text));
            tell("owes(0, 0, 0)", x.owes(0, 0, 0));
            tell("owes(1, 1, 0)", x.owes(1, 1, 0));
            tell("owes(2, 2, 12)", x.owes(2, 2, 12));
        }
        x.force(rule);
    }

    /** What lights come by the sheets' items, and where the sheets end. Takes another image. */
    private void tellSheets() {
        x.image();
        for (int sheet = 0; sheet < 4; sheet++) {
            int size = sheet == 2 ? 3 : 6;
            int first = x.count(0);
            tell("lights(" + sheet + ")", x.lights(sheet, sheet % 3, 0, size / 3));
            for (int light = first; light < x.count(0); light++) {
                tell("its kind", x.told(light, 6));
                tell("its number", x.told(light, 1));
                tell("its years", x.told(light, 2));
            }
            x.back();
            tell("cell(" + sheet + "), the last", x.cell(sheet, size - 1, 0));
            tell("cell(" + sheet + "), behind it", x.cell(sheet, size, 0));
        }
    }

    private void tellLooks() {
        for (int one = 0; one < 5; one++) {
            for (int light = 0; light < x.count(0); light++) {
                tell("look(" + one + ", " + light + ", 0)", x.look(one, light, 0));
            }
        }
    }
}
