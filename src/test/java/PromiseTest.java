import java.util.function.IntSupplier;
import java.util.function.Supplier;

/** For each promise of ../shared/DOC.md: ordinary inputs, the edges it names, and wrong inputs. */
public final class PromiseTest {
    private static final int NONE = AxleScale.NONE;
    private static final Class<?> INDEX = IndexOutOfBoundsException.class;
    private static final Class<?> ARGUMENT = IllegalArgumentException.class;
    private static final Class<?> STATE = IllegalStateException.class;

    private static int wrong = 0;
    private static int promise = 0;

    public static void main(String[] args) {
        promise1NewObject();
        promise2Append();
        promise3ClearText();
        promise4ErrorPosition();
        promise5AxlesTold();
        promise6About();
        promise7Axle();
        promise8Car();
        promise9Train();
        promise10Setting();
        promise11Roll();
        promise12Record();
        promise13Strike();
        promise14Weigh();
        promise15Bill();
        promise16Set();
        promise17Leave();
        promise18Undo();
        promise19Without();
        promise20Suspect();
        promise21BestBase();
        promise22Sureness();
        promise23Plans();
        promise24Heavy();
        promise25RunScript();
        promise26Simulate();
        promise27Save();
        promise28Restore();
        plansByTheTerms();
        System.out.println(wrong == 0 ? "all promises hold" : wrong + " answers are wrong");
        if (wrong != 0) {
            System.exit(1);
        }
    }

    // ---- helpers

    private static void due(String call, long want, IntSupplier answer) {
        long got;
        try {
            got = answer.getAsInt();
        } catch (RuntimeException e) {
            report(call + " threw " + e.getClass().getName() + ", due is " + want);
            return;
        }
        if (got != want) {
            report(call + " answered " + got + ", due is " + want);
        }
    }

    private static void dueThrow(String call, Class<?> want, IntSupplier answer) {
        try {
            report(call + " answered " + answer.getAsInt() + ", due is " + want.getName());
        } catch (RuntimeException e) {
            // Exactly: the machine's own exceptions are subclasses of some of these.
            if (e.getClass() != want) {
                report(call + " threw " + e.getClass().getName() + ", due is " + want.getName());
            }
        }
    }

    /** The call throws, and what can be seen of the object is as it was. */
    private static void dueThrow(AxleScale x, String call, Class<?> want, IntSupplier answer) {
        String before = picture(x);
        dueThrow(call, want, answer);
        duePicture(call + " (thrown)", x, before);
    }

    private static void duePicture(String call, AxleScale x, String want) {
        String got = picture(x);
        if (!got.equals(want)) {
            report(call + " left " + got + ", due is " + want);
        }
    }

    private static void report(String what) {
        wrong++;
        System.out.println("promise " + promise + ": " + what);
    }

    private static String picture(AxleScale x) {
        StringBuilder b = new StringBuilder();
        for (int what = 0; what <= 7; what++) {
            b.append(x.about(what)).append(' ');
        }
        int axles = x.about(0);
        for (int i = 0; i < axles; i++) {
            b.append('/').append(x.axle(i, 0)).append(',').append(x.axle(i, 1));
        }
        int trains = x.about(1);
        for (int t = 0; t < trains; t++) {
            b.append('b').append(x.train(t, 7));
        }
        for (int what = 0; what <= 3; what++) {
            b.append(" s").append(x.setting(what));
        }
        return b.append(" t").append(x.errorPosition()).append(',').append(x.axlesTold()).toString();
    }

    private static void type(AxleScale x, String text) {
        for (char c : text.toCharArray()) {
            x.append(c);
        }
    }

    private static AxleScale typed(String text) {
        AxleScale x = new AxleScale();
        type(x, text);
        return x;
    }

    /** A scale with axles: pause, weight, pause, weight, and so on. */
    private static AxleScale rolled(int... numbers) {
        AxleScale x = new AxleScale();
        for (int k = 0; k < numbers.length; k += 2) {
            x.roll(numbers[k], numbers[k + 1]);
        }
        return x;
    }

    /** Axles 0 to 6; cars 0-1 and 2-3 in the train 0, axle 6 stray in the train 1, car 4-5. */
    private static AxleScale twoTrains() {
        return rolled(60, 40, 4, 41, 9, 30, 5, 30, 45, 20, 6, 22, 7, 99);
    }

    private static AxleScale full() {
        AxleScale x = new AxleScale();
        for (int i = 0; i < 30; i++) {
            x.roll(i % 2 == 0 ? 8 : 4, 10 + i);
        }
        return x;
    }

    // ---- promises

    private static void promise1NewObject() {
        promise = 1;
        AxleScale x = new AxleScale();
        int[] about = {0, 0, 0, 0, 0, 0, 0, 0};
        for (int what = 0; what < about.length; what++) {
            int k = what;
            due("about(" + k + ")", about[k], () -> x.about(k));
        }
        int[] settings = {4, 6, 15, 40};
        for (int what = 0; what < settings.length; what++) {
            int k = what;
            due("setting(" + k + ")", settings[k], () -> x.setting(k));
        }
        due("clearText()", 0, x::clearText);
        dueThrow("undo()", STATE, x::undo);
        dueThrow("restore(0)", STATE, () -> x.restore(0));
        dueThrow("restore(1)", STATE, () -> x.restore(1));
        for (int t = 0; t < 30; t++) {
            int k = t;
            due("bill(" + k + ", 0)", NONE, () -> x.bill(k, 0));
        }
        if (AxleScale.NONE != -1) {
            report("NONE is " + AxleScale.NONE);
        }
        AxleScale y = new AxleScale();
        x.roll(4, 4);
        due("another object's about(0)", 0, () -> y.about(0));
    }

    private static void promise2Append() {
        promise = 2;
        AxleScale x = new AxleScale();
        dueThrow(x, "append(-1)", ARGUMENT, () -> x.append(-1));
        dueThrow(x, "append(256)", ARGUMENT, () -> x.append(256));
        dueThrow(x, "append(MIN)", ARGUMENT, () -> x.append(Integer.MIN_VALUE));
        due("append(0)", 1, () -> x.append(0));
        due("append(255)", 2, () -> x.append(255));
        for (int length = 3; length <= 120; length++) {
            due("append to " + length, length, () -> x.append('R'));
        }
        dueThrow(x, "append to 121", STATE, () -> x.append('R'));
        dueThrow(x, "append(256) to 121", ARGUMENT, () -> x.append(256));
        due("clearText()", 120, x::clearText);
        due("append behind clearText", 1, () -> x.append('R'));
        dueThrow("append is no action: undo()", STATE, x::undo);
    }

    private static void promise3ClearText() {
        promise = 3;
        AxleScale x = typed("R0440");
        due("clearText()", 5, x::clearText);
        due("clearText() again", 0, x::clearText);
        due("errorPosition()", 0, x::errorPosition);
        type(x, "R");
        due("errorPosition() of the new text", NONE, x::errorPosition);
        dueThrow("clearText is no action: undo()", STATE, x::undo);
    }

    private static void error(String text, int want) {
        due("errorPosition of " + text, want, typed(text)::errorPosition);
    }

    private static void promise4ErrorPosition() {
        promise = 4;
        error("", 0);
        error("r", 0);
        error("0440", 0);
        error("R", NONE);
        error("RR", 1);
        error("R 0440", 1);
        error("R0440", NONE);
        error("R0101", NONE);
        error("R6099", NONE);
        error("R00", 2);
        error("R61", 2);
        error("R70", 2);
        error("R7", 2);
        error("R8", 2);
        error("R9x", 2);
        error("R1(", 2);
        error("R0(", 2);
        error("R0", 2);
        error("R6", 2);
        error("R04", 3);
        error("R04x", 3);
        error("R044", 4);
        error("R0400", 4);
        error("R040", 4);
        error("R04(", 3);
        error("R0440)", 5);
        error("R)", 1);
        error("R2(", 3);
        error("R2()", 3);
        error("R2(0440", 7);
        error("R2(0440)", NONE);
        error("R9(0440)", NONE);
        error("R2(0440))", 8);
        error("R2(0440)5", 9);
        error("R6(0440)60402(0101)", NONE);
        error("R2(2(2(0101)))", NONE);
        error("R2(2(2(0101))", 13);
        error("R2(2(2(2(", 8);
        error("R2(2(2(6(", 8);
        error("R2(2(2(7", 7);
        error("R2(2(2(9(", 7);
        error("R2(2(2(20", 9);
        error("R2(2(2(2040)9(0101)))", NONE);
        error("R2(2(2(2040)9(0101)9(9(0101)))", 21);
        error("R2(2(2(0101)2(0101)2(", 21);
        error("R2(3(0101))2(2(2(2(", 18);
        error("R2(2())", 5);
        error("R2(2(0101))", NONE);
        error("R2(01012())", 9);
        AxleScale x = typed("R04");
        x.append(176);
        due("a sign of 176", 3, x::errorPosition);
        x.clearText();
        type(x, "R" + "0101".repeat(29) + "010");
        due("a full text that ends too soon", 120, x::errorPosition);
        x.clearText();
        type(x, "R" + "0101".repeat(29));
        due("a long text", NONE, x::errorPosition);
        x.clearText();
        type(x, "R2(3(");
        due("a text with open rows", 5, x::errorPosition);
        x.clearText();
        type(x, "R0440");
        due("nothing is open any more", NONE, x::errorPosition);
    }

    private static void told(String text, int want) {
        due("axlesTold of " + text, want, typed(text)::axlesTold);
    }

    private static void promise5AxlesTold() {
        promise = 5;
        told("", NONE);
        told("R", 0);
        told("R0440", 1);
        told("R04400550", 2);
        told("R2(0440)", 2);
        told("R9(04400440)", 18);
        told("R3(2(0510)0320)2099", 10);
        told("R04402(0440)0440", 4);
        told("R9(9(9(0101)))", 729);
        told("R9(9(9(0101)))5(0101)", 734);
        told("R9(9(9(" + "0101".repeat(27) + ")))", 19683);
        told("R2(2(0101)3(0101)0101)", 12);
        told("R2(0440", NONE);
        told("R0400", NONE);
    }

    private static void promise6About() {
        promise = 6;
        AxleScale x = twoTrains();
        // Train 0: 1 + (3 + 0) + 0 gap ticks missing (9 >= 6); train 1: (6 + 2) + 15.
        int[] want = {7, 2, 3, 1, 183, 27, 0, 0};
        dueAbout(x, want);
        x.bill(0, 141);
        x.bill(1, 43);
        x.bill(2, 1);
        x.bill(29, 9999);
        dueAbout(x, new int[] {7, 2, 3, 1, 183, 27, 2, 1});
        x.bill(0, 140);
        due("about(7)", 2, () -> x.about(7));
        x.bill(1, 0);
        due("about(6)", 1, () -> x.about(6));
        dueThrow(x, "about(-1)", ARGUMENT, () -> x.about(-1));
        dueThrow(x, "about(8)", ARGUMENT, () -> x.about(8));
        AxleScale stray = rolled(1, 1);
        stray.bill(0, 5);
        dueAbout(stray, new int[] {1, 1, 0, 1, 0, 15, 1, 1});
    }

    private static void dueAbout(AxleScale x, int[] want) {
        for (int what = 0; what < want.length; what++) {
            int k = what;
            due("about(" + k + ")", want[k], () -> x.about(k));
        }
    }

    private static void promise7Axle() {
        promise = 7;
        AxleScale x = twoTrains();
        int[][] want = {{60, 40, 0, 0}, {4, 41, 0, 0}, {9, 30, 0, 1}, {5, 30, 0, 1},
            {45, 20, 1, 2}, {6, 22, 1, 2}, {7, 99, 1, NONE}};
        for (int i = 0; i < want.length; i++) {
            for (int what = 0; what <= 3; what++) {
                int a = i;
                int b = what;
                due("axle(" + a + ", " + b + ")", want[a][b], () -> x.axle(a, b));
            }
        }
        dueThrow(x, "axle(-1, 0)", INDEX, () -> x.axle(-1, 0));
        dueThrow(x, "axle(7, 0)", INDEX, () -> x.axle(7, 0));
        dueThrow(x, "axle(0, -1)", ARGUMENT, () -> x.axle(0, -1));
        dueThrow(x, "axle(6, 4)", ARGUMENT, () -> x.axle(6, 4));
        dueThrow(x, "axle(7, 4)", INDEX, () -> x.axle(7, 4));
        AxleScale all = full();
        due("axle(29, 1)", 39, () -> all.axle(29, 1));
        due("axle(29, 3)", 14, () -> all.axle(29, 3));
        dueThrow(all, "axle(30, 0)", INDEX, () -> all.axle(30, 0));
    }

    private static void promise8Car() {
        promise = 8;
        AxleScale x = twoTrains();
        int[][] want = {{0, 81, 4, 150, 0, NONE}, {2, 60, 5, 120, 0, 9}, {4, 42, 6, 100, 1, NONE}};
        for (int c = 0; c < want.length; c++) {
            for (int what = 0; what <= 5; what++) {
                int a = c;
                int b = what;
                due("car(" + a + ", " + b + ")", want[a][b], () -> x.car(a, b));
            }
        }
        dueThrow(x, "car(-1, 0)", INDEX, () -> x.car(-1, 0));
        dueThrow(x, "car(3, 0)", INDEX, () -> x.car(3, 0));
        dueThrow(x, "car(0, 6)", ARGUMENT, () -> x.car(0, 6));
        dueThrow(x, "car(2, -1)", ARGUMENT, () -> x.car(2, -1));
        dueThrow(x, "car(3, 6)", INDEX, () -> x.car(3, 6));
        // With a stray axle between two cars all ticks behind the one up to the other one count.
        AxleScale gap = rolled(1, 50, 4, 50, 10, 99, 11, 50, 4, 50);
        due("about(2)", 2, () -> gap.about(2));
        due("car(1, 5)", 21, () -> gap.car(1, 5));
        AxleScale three = rolled(1, 50, 4, 50, 7, 50, 4, 50, 9, 50, 4, 50);
        due("car(1, 5)", 7, () -> three.car(1, 5));
        due("car(2, 5)", 9, () -> three.car(2, 5));
        due("car(0, 3), the fastest there is", 600, () -> rolled(1, 50, 1, 50).car(0, 3));
        AxleScale slow = rolled(1, 50, 7, 50);
        due("car(0, 3), rounded down", 85, () -> slow.car(0, 3));
    }

    private static void promise9Train() {
        promise = 9;
        AxleScale x = twoTrains();
        x.bill(1, 43);
        int[][] want = {{0, 4, 2, 141, 4, 81, 30, NONE}, {4, 3, 1, 42, 23, 42, 0, 43}};
        for (int t = 0; t < want.length; t++) {
            for (int what = 0; what <= 7; what++) {
                int a = t;
                int b = what;
                due("train(" + a + ", " + b + ")", want[a][b], () -> x.train(a, b));
            }
        }
        dueThrow(x, "train(-1, 0)", INDEX, () -> x.train(-1, 0));
        dueThrow(x, "train(2, 0)", INDEX, () -> x.train(2, 0));
        dueThrow(x, "train(0, 8)", ARGUMENT, () -> x.train(0, 8));
        dueThrow(x, "train(0, -1)", ARGUMENT, () -> x.train(0, -1));
        dueThrow(x, "train(2, 8)", INDEX, () -> x.train(2, 8));
        AxleScale stray = rolled(1, 1, 39, 99, 40, 1);
        int[] noCar = {0, 2, 0, 0, 30, NONE, NONE, NONE};
        for (int what = 0; what <= 7; what++) {
            int b = what;
            due("train(0, " + b + ") without a car", noCar[b], () -> stray.train(0, b));
        }
        due("train(1, 0): a pause of just the end", 2, () -> stray.train(1, 0));
        AxleScale all = full();
        all.set(3, 2);
        due("about(1)", 30, () -> all.about(1));
        for (int t = 0; t < 30; t++) {
            int[] alone = {t, 1, 0, 0, 15, NONE, NONE, NONE};
            for (int what = 0; what <= 7; what++) {
                int a = t;
                int b = what;
                due("train(" + a + ", " + b + ")", alone[b], () -> all.train(a, b));
            }
        }
        dueThrow(all, "train(30, 0)", INDEX, () -> all.train(30, 0));
    }

    private static void promise10Setting() {
        promise = 10;
        AxleScale x = new AxleScale();
        x.set(0, 20);
        x.set(1, 40);
        x.set(2, 60);
        x.set(3, 60);
        int[] want = {20, 40, 60, 60};
        for (int what = 0; what < want.length; what++) {
            int k = what;
            due("setting(" + k + ")", want[k], () -> x.setting(k));
        }
        dueThrow(x, "setting(-1)", ARGUMENT, () -> x.setting(-1));
        dueThrow(x, "setting(4)", ARGUMENT, () -> x.setting(4));
    }

    private static void promise11Roll() {
        promise = 11;
        AxleScale x = new AxleScale();
        dueThrow(x, "roll(0, 1)", ARGUMENT, () -> x.roll(0, 1));
        dueThrow(x, "roll(61, 1)", ARGUMENT, () -> x.roll(61, 1));
        dueThrow(x, "roll(1, 0)", ARGUMENT, () -> x.roll(1, 0));
        dueThrow(x, "roll(1, 100)", ARGUMENT, () -> x.roll(1, 100));
        dueThrow("undo() behind calls that threw", STATE, x::undo);
        due("roll(1, 99)", 0, () -> x.roll(1, 99));
        due("roll(60, 1)", 1, () -> x.roll(60, 1));
        due("axle(0, 0)", 1, () -> x.axle(0, 0));
        due("axle(1, 1)", 1, () -> x.axle(1, 1));
        for (int i = 2; i < 30; i++) {
            due("roll number " + i, i, () -> x.roll(4, 4));
        }
        dueThrow("roll number 30", STATE, () -> x.roll(4, 4));
        AxleScale all = full();
        dueThrow(all, "roll number 30", STATE, () -> all.roll(4, 4));
        dueThrow("roll(0, 4) number 30", ARGUMENT, () -> all.roll(0, 4));
    }

    private static void promise12Record() {
        promise = 12;
        AxleScale x = typed("R3(2(0510)0320)2099");
        due("record()", 10, x::record);
        int[] pauses = {5, 5, 3, 5, 5, 3, 5, 5, 3, 20};
        int[] weights = {10, 10, 20, 10, 10, 20, 10, 10, 20, 99};
        for (int i = 0; i < 10; i++) {
            int k = i;
            due("axle(" + k + ", 0)", pauses[k], () -> x.axle(k, 0));
            due("axle(" + k + ", 1)", weights[k], () -> x.axle(k, 1));
        }
        due("record() again: the text is kept", 20, x::record);
        due("axle(19, 0)", 20, () -> x.axle(19, 0));
        due("record(), just 30", 30, x::record);
        dueThrow(x, "record() of more than 30", STATE, x::record);
        x.clearText();
        dueThrow(x, "record() without a record", STATE, x::record);
        type(x, "R");
        due("record() of no axle", 30, x::record);
        due("undo(): that was an action", 3, x::undo);
        AxleScale y = typed("R9(9(9(0101)))");
        dueThrow(y, "record() of 729", STATE, y::record);
        y.clearText();
        type(y, "R5(6(0102))");
        due("record() of 30", 30, y::record);
        due("axle(29, 1)", 2, () -> y.axle(29, 1));
        y.strike(0);
        y.strike(0);
        y.clearText();
        type(y, "R0707");
        due("record() of a shorter text", 29, y::record);
        AxleScale z = typed("R5(6(0102))0102");
        dueThrow(z, "record() of 31", STATE, z::record);
        AxleScale broken = typed("R0440044");
        dueThrow(broken, "record() of a broken text", STATE, broken::record);
    }

    private static void promise13Strike() {
        promise = 13;
        AxleScale x = rolled(10, 1, 20, 2, 30, 3, 40, 4);
        dueThrow(x, "strike(-1)", INDEX, () -> x.strike(-1));
        dueThrow(x, "strike(4)", INDEX, () -> x.strike(4));
        due("strike(1)", 3, () -> x.strike(1));
        due("axle(0, 0)", 10, () -> x.axle(0, 0));
        due("axle(1, 0): the sum", 50, () -> x.axle(1, 0));
        due("axle(1, 1)", 3, () -> x.axle(1, 1));
        due("axle(2, 0)", 40, () -> x.axle(2, 0));
        due("strike(1) again", 2, () -> x.strike(1));
        due("axle(1, 0): at most 60", 60, () -> x.axle(1, 0));
        due("axle(1, 1)", 4, () -> x.axle(1, 1));
        due("strike(1), the last one", 1, () -> x.strike(1));
        due("axle(0, 0) is as it was", 10, () -> x.axle(0, 0));
        due("strike(0)", 0, () -> x.strike(0));
        dueThrow(x, "strike(0) without axles", INDEX, () -> x.strike(0));
        due("undo()", 7, x::undo);
        AxleScale first = rolled(10, 1, 49, 2, 5, 3);
        due("strike(0)", 2, () -> first.strike(0));
        due("axle(0, 0)", 59, () -> first.axle(0, 0));
        due("axle(1, 0)", 5, () -> first.axle(1, 0));
        AxleScale all = full();
        due("strike(29)", 29, () -> all.strike(29));
        due("strike(0)", 28, () -> all.strike(0));
        due("axle(27, 1)", 38, () -> all.axle(27, 1));
        all.roll(1, 1);
        due("axle(28, 0): nothing is left of the old one", 1, () -> all.axle(28, 0));
    }

    private static void promise14Weigh() {
        promise = 14;
        AxleScale x = rolled(10, 1, 20, 2);
        due("weigh(1, 99)", 2, () -> x.weigh(1, 99));
        due("weigh(1, 1)", 99, () -> x.weigh(1, 1));
        due("weigh(1, 1): nothing becomes different", 1, () -> x.weigh(1, 1));
        due("axle(1, 1)", 1, () -> x.axle(1, 1));
        due("axle(0, 1)", 1, () -> x.axle(0, 1));
        dueThrow(x, "weigh(2, 1)", INDEX, () -> x.weigh(2, 1));
        dueThrow(x, "weigh(-1, 1)", INDEX, () -> x.weigh(-1, 1));
        dueThrow(x, "weigh(1, 0)", ARGUMENT, () -> x.weigh(1, 0));
        dueThrow(x, "weigh(1, 100)", ARGUMENT, () -> x.weigh(1, 100));
        dueThrow(x, "weigh(2, 100)", INDEX, () -> x.weigh(2, 100));
        due("undo(): each of the three was an action", 4, x::undo);
    }

    private static void promise15Bill() {
        promise = 15;
        AxleScale x = rolled(10, 1);
        due("bill(0, 1)", NONE, () -> x.bill(0, 1));
        due("bill(0, 9999)", 1, () -> x.bill(0, 9999));
        due("train(0, 7)", 9999, () -> x.train(0, 7));
        due("bill(0, 0)", 9999, () -> x.bill(0, 0));
        due("bill(0, 0) again", NONE, () -> x.bill(0, 0));
        due("train(0, 7)", NONE, () -> x.train(0, 7));
        due("bill(29, 7)", NONE, () -> x.bill(29, 7));
        dueThrow(x, "bill(30, 1)", ARGUMENT, () -> x.bill(30, 1));
        dueThrow(x, "bill(-1, 1)", ARGUMENT, () -> x.bill(-1, 1));
        dueThrow(x, "bill(0, -1)", ARGUMENT, () -> x.bill(0, -1));
        dueThrow(x, "bill(0, 10000)", ARGUMENT, () -> x.bill(0, 10000));
        due("bill(29, 7)", 7, () -> x.bill(29, 7));
        due("undo()", 6, x::undo);
        // A bill stays with its number when trains become others.
        AxleScale y = twoTrains();
        y.bill(1, 42);
        y.set(3, 60);
        due("about(6)", 0, () -> y.about(6));
        y.set(3, 45);
        due("train(1, 7)", 42, () -> y.train(1, 7));
    }

    private static void promise16Set() {
        promise = 16;
        AxleScale x = rolled(10, 1, 5, 3);
        int[] first = {4, 6, 15, 40};
        int[] least = {1, 1, 0, 2};
        int[] most = {20, 40, 60, 60};
        for (int what = 0; what < 4; what++) {
            int k = what;
            due("set(" + k + ", least)", first[k], () -> x.set(k, least[k]));
            due("set(" + k + ", most)", least[k], () -> x.set(k, most[k]));
            due("setting(" + k + ")", most[k], () -> x.setting(k));
            dueThrow(x, "set(" + k + ", less)", ARGUMENT, () -> x.set(k, least[k] - 1));
            dueThrow(x, "set(" + k + ", more)", ARGUMENT, () -> x.set(k, most[k] + 1));
        }
        dueThrow(x, "set(-1, 5)", ARGUMENT, () -> x.set(-1, 5));
        dueThrow(x, "set(4, 5)", ARGUMENT, () -> x.set(4, 5));
        due("undo()", 9, x::undo);
        due("setting(3)", 2, () -> x.setting(3));
    }

    private static void promise17Leave() {
        promise = 17;
        AxleScale x = twoTrains();
        x.bill(0, 5);
        x.bill(1, 6);
        x.bill(29, 7);
        due("leave()", 141, x::leave);
        due("about(0)", 3, () -> x.about(0));
        due("axle(0, 0)", 45, () -> x.axle(0, 0));
        due("axle(2, 1)", 99, () -> x.axle(2, 1));
        due("train(0, 7)", 6, () -> x.train(0, 7));
        due("leave() again", 42, x::leave);
        dueThrow(x, "leave() without a train", STATE, x::leave);
        due("bill(0, 0)", NONE, () -> x.bill(0, 0));
        due("bill(27, 0): smaller by 1 twice", 7, () -> x.bill(27, 0));
        due("bill(28, 0)", NONE, () -> x.bill(28, 0));
        due("bill(29, 0)", NONE, () -> x.bill(29, 0));
        AxleScale all = full();
        due("leave() of 30 axles", 30 * 10 + 29 * 15, all::leave);
        due("about(0)", 0, () -> all.about(0));
        AxleScale ends = rolled(1, 1, 60, 2);
        due("leave() without a car", 0, ends::leave);
        due("axle(0, 1)", 2, () -> ends.axle(0, 1));
    }

    private static AxleScale alike(int axles) {
        AxleScale x = new AxleScale();
        for (int k = 1; k <= axles; k++) {
            x.roll(3 + k % 3, k);
        }
        return x;
    }

    private static void promise18Undo() {
        promise = 18;
        for (int undone = 1; undone <= 14; undone++) {
            AxleScale x = alike(20);
            for (int left = 13; left >= 14 - undone; left--) {
                due("undo()", left, x::undo);
            }
            duePicture(undone + " times undo()", x, picture(alike(20 - undone)));
        }
        AxleScale x = alike(20);
        for (int k = 0; k < 14; k++) {
            x.undo();
        }
        dueThrow(x, "undo(): at most 14 are remembered", STATE, x::undo);
        x.roll(4, 4);
        due("undo() behind the end", 0, x::undo);
        AxleScale y = twoTrains();
        y.bill(0, 5);
        y.bill(7, 8);
        type(y, "R0505");
        String before = picture(y);
        y.leave();
        y.set(2, 1);
        y.weigh(0, 7);
        y.strike(1);
        y.bill(6, 0);
        y.record();
        for (int left : new int[] {13, 12, 11, 10, 9, 8}) {
            due("undo(): 15 were done, 14 are remembered", left, y::undo);
        }
        duePicture("six undo()", y, before);
        due("bill(7, 0)", 8, () -> y.bill(7, 0));
        due("the text stays", 5, y::clearText);
    }

    private static void promise19Without() {
        promise = 19;
        for (int i = 0; i < 7; i++) {
            int k = i;
            AxleScale y = twoTrains();
            y.strike(k);
            int want = y.about(4);
            AxleScale z = twoTrains();
            String before = picture(z);
            due("without(" + k + ")", want, () -> z.without(k));
            duePicture("without(" + k + ")", z, before);
            due("undo(): without was no action", 6, z::undo);
        }
        AxleScale x = twoTrains();
        due("without(6)", 183, () -> x.without(6));
        dueThrow(x, "without(-1)", INDEX, () -> x.without(-1));
        dueThrow(x, "without(7)", INDEX, () -> x.without(7));
        due("undo(): without was no action", 6, x::undo);
        // Two pauses of 20 make one of 40: the end.
        AxleScale joined = rolled(1, 10, 20, 10, 20, 10, 4, 10);
        due("without(1)", 20, () -> joined.without(1));
    }

    private static void promise20Suspect() {
        promise = 20;
        AxleScale x = twoTrains();
        String before = picture(x);
        due("suspect(): the stray one", 6, x::suspect);
        duePicture("suspect()", x, before);
        due("suspect() of no axles", NONE, () -> new AxleScale().suspect());
        due("suspect() where none makes it cheaper", NONE, () -> rolled(1, 50, 4, 50).suspect());
        due("suspect(): the lowest one of several", 0, () -> rolled(1, 9, 40, 9, 40, 9).suspect());
        // Striking any of three alike leaves one car that is as cheap, but for the pauses.
        due("suspect(): 0, 1 or 2", 0, () -> rolled(1, 9, 4, 9, 4, 9).suspect());
        due("suspect(): as cheap is not enough", NONE, () -> {
            AxleScale free = rolled(1, 1, 30, 99);
            free.set(2, 0);
            return free.suspect();
        });
        due("undo(): suspect was no action", 6, x::undo);
    }

    private static void promise21BestBase() {
        promise = 21;
        due("bestBase() of no axles", 1, () -> new AxleScale().bestBase());
        due("bestBase()", 7, () -> rolled(1, 50, 7, 50).bestBase());
        due("bestBase(): the most", 20, () -> rolled(1, 50, 20, 50).bestBase());
        due("bestBase(): the lowest one of several", 5,
                () -> rolled(1, 50, 5, 50, 50, 50, 7, 50).bestBase());
        AxleScale x = twoTrains();
        String before = picture(x);
        due("bestBase()", 5, x::bestBase);
        duePicture("bestBase()", x, before);
        due("bestBase(): all are stray", 1, () -> rolled(1, 1, 30, 99).bestBase());
    }

    private static void promise22Sureness() {
        promise = 22;
        AxleScale x = twoTrains();
        String before = picture(x);
        // Train 0 costs 4; with axle 0 stray: 0, (1, 2): 15 + 30 and so on; all stray: 60.
        due("sureness(6): stray anyway", 0, () -> x.sureness(6));
        due("sureness(0)", 15 + 15 + 3 - 4, () -> x.sureness(0));
        due("sureness(3)", 15 + 15 + 1 - 4, () -> x.sureness(3));
        due("sureness(4)", 45 - 23, () -> x.sureness(4));
        duePicture("sureness()", x, before);
        dueThrow(x, "sureness(-1)", INDEX, () -> x.sureness(-1));
        dueThrow(x, "sureness(7)", INDEX, () -> x.sureness(7));
        due("sureness of one axle", 0, () -> rolled(1, 1).sureness(0));
        AxleScale chain = rolled(1, 50, 4, 50, 4, 50);
        due("sureness(0): the other two make a car", 0, () -> chain.sureness(0));
        due("sureness(1): all three are stray", 45 - 15, () -> chain.sureness(1));
    }

    private static void promise23Plans() {
        promise = 23;
        int before = 1;
        int count = 1;
        AxleScale x = new AxleScale();
        dueThrow(x, "plans(0) without axles", INDEX, () -> x.plans(0));
        for (int axles = 1; axles <= 30; axles++) {
            x.roll(4, 4);
            int want = Math.min(count, 999999);
            due("plans of " + axles, want, () -> x.plans(0));
            int more = before + count;
            before = count;
            count = more;
        }
        due("plans of 30", 999999, () -> x.plans(0));
        dueThrow("plans(1)", INDEX, () -> x.plans(1));
        dueThrow("plans(-1)", INDEX, () -> x.plans(-1));
        AxleScale y = twoTrains();
        due("plans(0)", 5, () -> y.plans(0));
        due("plans(1)", 3, () -> y.plans(1));
        dueThrow(y, "plans(2)", INDEX, () -> y.plans(2));
    }

    private static void promise24Heavy() {
        promise = 24;
        AxleScale x = twoTrains();
        due("heavy(0)", 63, () -> x.heavy(0));
        due("heavy(42)", 63, () -> x.heavy(42));
        due("heavy(43)", 15, () -> x.heavy(43));
        due("heavy(61)", 3, () -> x.heavy(61));
        due("heavy(81)", 3, () -> x.heavy(81));
        due("heavy(82)", 0, () -> x.heavy(82));
        due("heavy(MAX)", 0, () -> x.heavy(Integer.MAX_VALUE));
        dueThrow(x, "heavy(-1)", ARGUMENT, () -> x.heavy(-1));
        due("heavy(0) of 30", (1 << 30) - 1, () -> full().heavy(0));
    }

    private static void script(Supplier<AxleScale> scale, int n, long script, int want) {
        AxleScale x = scale.get();
        String before = picture(x);
        due("runScript(" + n + ", " + script + ")", want, () -> x.runScript(n, script));
        duePicture("runScript", x, before);
    }

    private static void script(int n, long script, int want) {
        script(PromiseTest::twoTrains, n, script, want);
    }

    private static void promise25RunScript() {
        promise = 25;
        AxleScale x = twoTrains();
        dueThrow(x, "runScript(0, 0)", ARGUMENT, () -> x.runScript(0, 0));
        dueThrow(x, "runScript(4, 0)", ARGUMENT, () -> x.runScript(4, 0));
        dueThrow(x, "runScript(1, -1)", ARGUMENT, () -> x.runScript(1, -1));
        dueThrow(x, "runScript(1, 100000)", ARGUMENT, () -> x.runScript(1, 100000));
        dueThrow(x, "runScript(2, 10^10)", ARGUMENT, () -> x.runScript(2, 10000000000L));
        dueThrow(x, "runScript(3, 10^15)", ARGUMENT, () -> x.runScript(3, 1000000000000000L));
        dueThrow(x, "runScript(3, MAX)", ARGUMENT, () -> x.runScript(3, Long.MAX_VALUE));
        scriptsOfOneCommand();
        script(2, 60003L, 0);
        script(2, 6000360003L, NONE);
        script(2, 6000360004L, 1);
        script(3, 600036000360004L, 2);
        script(3, 600036000360003L, NONE);
        script(3, 600036000460005L, 1);
        script(3, 206006000370000L, NONE);
        script(3, 500005000060000L, NONE);
        script(3, 500005000050000L, 2);
        script(3, 500006000160002L, 2);
        script(2, 1049960004L, NONE);
        script(3, 105995000080240L, NONE);
        script(3, 105995000080241L, 2);
        script(2, 3009980102L, NONE);
        script(2, 3009980103L, 1);
        script(2, 3060280225L, 1);
        script(2, 4002070000L, 1);
        script(3, 436006000360004L, 2);
        script(2, 4200070007L, NONE);
        x.runScript(2, 5000010404L);
        due("undo(): a script is no action", 6, x::undo);
        script(PromiseTest::full, 1, 10404, 0);
        script(PromiseTest::full, 2, 5000010404L, NONE);
        script(AxleScale::new, 1, 50000, 0);
        script(AxleScale::new, 1, 90000, 0);
        script(AxleScale::new, 1, 60000, NONE);
    }

    private static void scriptsOfOneCommand() {
        int[] succeed = {10101, 16099, 20000, 20600, 30001, 30699, 40010, 40200, 41010, 41400, 42000,
            42600, 43020, 43600, 50000, 60000, 60003, 70001, 70099, 80000, 80183, 90001, 90501, 90600};
        int[] fail = {0, 1, 9999, 10001, 10100, 16101, 20700, 20010, 20001, 29900, 30700, 30000,
            39901, 40000, 40011, 40210, 41000, 41410, 42610, 43010, 43610, 44050, 49050, 50001, 50010,
            50100, 51000, 60004, 60099, 60100, 61000, 70000, 70101, 71001, 80184, 89999, 90000, 90002,
            90010, 90011, 90500, 90601, 90700, 90701, 99901};
        for (int group : succeed) {
            script(1, group, NONE);
        }
        for (int group : fail) {
            script(1, group, 0);
        }
    }

    /** The words of the document, done with calls of the class itself. */
    private static int simulated(AxleScale x, long seed, int m) {
        long state = seed;
        int w = 40;
        for (int k = 0; k < m; k++) {
            state = state * 6364136223846793005L + 1442695040888963407L;
            int r = (int) (state >>> 33);
            if (r / 8 % 2 == 0) {
                w = 1 + r / 16 % 99;
            }
            int pause = r % 8 == 0 ? 1 + r / 2048 % 60
                    : r % 2 == 1 ? x.setting(0) : Math.min(60, x.setting(1) + r / 2048 % 4);
            if (x.about(0) == 30) {
                x.leave();
            }
            x.roll(pause, w);
        }
        return 1000 * x.about(2) + Math.min(999, x.about(4));
    }

    private static void promise26Simulate() {
        promise = 26;
        AxleScale x = twoTrains();
        dueThrow(x, "simulate(1, 0)", ARGUMENT, () -> x.simulate(1, 0));
        dueThrow(x, "simulate(1, 61)", ARGUMENT, () -> x.simulate(1, 61));
        dueThrow(x, "simulate(1, -1)", ARGUMENT, () -> x.simulate(1, -1));
        long[] seeds = {0, 1, -1, 5, 77, Long.MAX_VALUE, Long.MIN_VALUE, 1234567890123L};
        int[] lengths = {1, 2, 23, 24, 40, 60};
        for (long seed : seeds) {
            for (int m : lengths) {
                int want = simulated(twoTrains(), seed, m);
                AxleScale y = twoTrains();
                String before = picture(y);
                due("simulate(" + seed + ", " + m + ")", want, () -> y.simulate(seed, m));
                duePicture("simulate", y, before);
                due("undo(): simulate is no action", 6, y::undo);
            }
        }
        for (int seed = 0; seed < 200; seed++) {
            int k = seed;
            int m = 1 + seed % 60;
            AxleScale y = new AxleScale();
            y.set(3, 10 + seed % 50);
            int want = simulated(y, k, m);
            AxleScale z = new AxleScale();
            z.set(3, 10 + seed % 50);
            due("simulate(" + k + ", " + m + ")", want, () -> z.simulate(k, m));
        }
        due("simulate(5, 60) of a new one", simulated(new AxleScale(), 5, 60),
                () -> new AxleScale().simulate(5, 60));
    }

    private static void promise27Save() {
        promise = 27;
        AxleScale x = twoTrains();
        dueThrow(x, "save(-1)", INDEX, () -> x.save(-1));
        dueThrow(x, "save(2)", INDEX, () -> x.save(2));
        String before = picture(x);
        due("save(0)", 7, () -> x.save(0));
        duePicture("save(0)", x, before);
        due("undo(): save is no action", 6, x::undo);
        due("save(1)", 6, () -> x.save(1));
        due("restore(0)", 7, () -> x.restore(0));
        due("restore(1)", 6, () -> x.restore(1));
        due("save(0) over the old one", 6, () -> x.save(0));
        due("restore(0)", 6, () -> x.restore(0));
        due("save(0) of no axles", 0, () -> new AxleScale().save(0));
    }

    private static void promise28Restore() {
        promise = 28;
        AxleScale x = twoTrains();
        x.bill(1, 5);
        x.bill(9, 6);
        x.set(0, 5);
        dueThrow(x, "restore(0)", STATE, () -> x.restore(0));
        dueThrow(x, "restore(-1)", INDEX, () -> x.restore(-1));
        dueThrow(x, "restore(2)", INDEX, () -> x.restore(2));
        x.save(1);
        String before = picture(x);
        dueThrow(x, "restore(0), only 1 is saved", STATE, () -> x.restore(0));
        x.leave();
        x.set(0, 6);
        x.bill(8, 0);
        due("restore(1)", 7, () -> x.restore(1));
        duePicture("restore(1)", x, before);
        dueThrow(x, "undo() behind restore", STATE, x::undo);
        due("bill(9, 0)", 6, () -> x.bill(9, 0));
        x.strike(0);
        x.strike(0);
        due("restore(1) again: the slot keeps it", 7, () -> x.restore(1));
        duePicture("restore(1) again", x, before);
        type(x, "R0440");
        x.restore(1);
        due("the text is no part of the state", 5, x::clearText);
        x.roll(4, 4);
        due("undo() of an action behind restore", 0, x::undo);
        duePicture("undo()", x, before);
    }

    // ---- which plan it is, by the terms

    private static void plansByTheTerms() {
        promise = 6;
        // As cheap with a car as without: more cars.
        AxleScale even = rolled(1, 10, 4, 40);
        due("a car for 30, two stray ones for 30: cars", 1, () -> even.about(2));
        even.weigh(1, 41);
        due("a car for 31, two stray ones for 30: cars", 0, () -> even.about(2));
        // As cheap and as many cars: the first car begins first.
        AxleScale first = rolled(1, 10, 4, 10, 4, 10);
        due("the first car begins first", 0, () -> first.car(0, 0));
        AxleScale second = rolled(1, 10, 4, 10, 8, 10, 4, 10, 4, 10);
        due("the second car begins first", 2, () -> second.car(1, 0));
        // The last car at the end of a full scale, with fewer cars than there can be.
        AxleScale last = full();
        last.weigh(0, 99);
        due("cars behind two stray axles", 14, () -> last.about(2));
        due("the last car", 28, () -> last.car(13, 0));
        // The gap: 2 for each tick that is missing.
        AxleScale gap = rolled(1, 10, 4, 10, 5, 10, 4, 10);
        due("a tick is missing", 2, () -> gap.about(5));
        gap.set(1, 5);
        due("none is missing", 0, () -> gap.about(5));
        // No gap before the first car of the next train.
        AxleScale next = rolled(1, 10, 4, 10, 5, 10, 4, 10);
        next.set(3, 5);
        due("another train begins", 2, () -> next.about(1));
        due("no gap between trains", 0, () -> next.about(5));
        // The base: 3 for each tick of difference, to both sides.
        due("a longer car", 6, () -> rolled(1, 10, 6, 10).about(5));
        due("a shorter car", 9, () -> rolled(1, 10, 1, 10).about(5));
        due("the heavier axle in front", 7, () -> rolled(1, 17, 4, 10).about(5));
    }
}
