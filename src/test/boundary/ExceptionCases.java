/** The terms about exceptions, and the constant. */
final class ExceptionCases {
    private final Boundary b;

    ExceptionCases(Boundary b) {
        this.b = b;
    }

    void all() {
        index();
        argument();
        state();
        several();
        changesNothing();
        none();
    }

    private void index() {
        b.test(0, "IndexOutOfBoundsException means that an axle, a car or a train does not exist, or that a save slot is not 0 or 1.",
                Rows.TWO_TRAINS + """
                axle(7, 0) = throws.IndexOutOfBoundsException; axle(-1, 0) = throws.IndexOutOfBoundsException
                car(3, 0) = throws.IndexOutOfBoundsException; car(-1, 0) = throws.IndexOutOfBoundsException
                train(2, 0) = throws.IndexOutOfBoundsException; train(-1, 0) = throws.IndexOutOfBoundsException
                strike(7) = throws.IndexOutOfBoundsException; strike(-1) = throws.IndexOutOfBoundsException
                weigh(7, 50) = throws.IndexOutOfBoundsException; weigh(-1, 50) = throws.IndexOutOfBoundsException
                without(7) = throws.IndexOutOfBoundsException; without(-1) = throws.IndexOutOfBoundsException
                sureness(7) = throws.IndexOutOfBoundsException; sureness(-1) = throws.IndexOutOfBoundsException
                plans(2) = throws.IndexOutOfBoundsException; plans(-1) = throws.IndexOutOfBoundsException
                save(2) = throws.IndexOutOfBoundsException; save(-1) = throws.IndexOutOfBoundsException
                restore(2) = throws.IndexOutOfBoundsException; restore(-1) = throws.IndexOutOfBoundsException
                // a bill's number is no train's, and axle numbers in a script are no axles
                bill(2, 5) = NONE; runScript(1, 20700) = 0
                """);
    }

    private void argument() {
        b.test(0, "IllegalArgumentException means that another argument is out of its range.", Rows.TWO_TRAINS + """
                append(256) = throws.IllegalArgumentException; about(8) = throws.IllegalArgumentException
                axle(0, 4) = throws.IllegalArgumentException; car(0, 6) = throws.IllegalArgumentException
                train(0, 8) = throws.IllegalArgumentException; setting(4) = throws.IllegalArgumentException
                roll(61, 50) = throws.IllegalArgumentException; roll(4, 100) = throws.IllegalArgumentException
                weigh(0, 100) = throws.IllegalArgumentException; bill(30, 5) = throws.IllegalArgumentException
                bill(0, 10000) = throws.IllegalArgumentException; set(4, 5) = throws.IllegalArgumentException
                set(0, 21) = throws.IllegalArgumentException; heavy(-1) = throws.IllegalArgumentException
                runScript(4, 0) = throws.IllegalArgumentException; runScript(1, 100000) = throws.IllegalArgumentException
                simulate(0, 61) = throws.IllegalArgumentException
                """);
    }

    private void state() {
        b.test(0, "IllegalStateException means what the method says.", """
                record() = throws.IllegalStateException; leave() = throws.IllegalStateException
                undo() = throws.IllegalStateException; restore(0) = throws.IllegalStateException
                """, "120 times append(82); append(82) = throws.IllegalStateException",
                Rows.FULL_BY_TEXT + "roll(4, 50) = throws.IllegalStateException");
    }

    private void several() {
        b.test(0, "If several exceptions apply to a call, the one that its description names first is thrown.",
                "120 times append(82); append(256) = throws.IllegalArgumentException; append(-1) = throws.IllegalArgumentException",
                Rows.TWO_TRAINS + """
                axle(7, 4) = throws.IndexOutOfBoundsException; axle(-1, -1) = throws.IndexOutOfBoundsException
                car(3, 6) = throws.IndexOutOfBoundsException; car(-1, -1) = throws.IndexOutOfBoundsException
                train(2, 8) = throws.IndexOutOfBoundsException; train(-1, -1) = throws.IndexOutOfBoundsException
                weigh(7, 100) = throws.IndexOutOfBoundsException; weigh(-1, 0) = throws.IndexOutOfBoundsException
                restore(2) = throws.IndexOutOfBoundsException; restore(-1) = throws.IndexOutOfBoundsException
                """, Rows.FULL_BY_TEXT + """
                roll(0, 50) = throws.IllegalArgumentException; roll(4, 0) = throws.IllegalArgumentException
                roll(61, 100) = throws.IllegalArgumentException
                """, """
                axle(0, 4) = throws.IndexOutOfBoundsException; car(0, 6) = throws.IndexOutOfBoundsException
                train(0, 8) = throws.IndexOutOfBoundsException; weigh(0, 0) = throws.IndexOutOfBoundsException
                """);
    }

    /** Behind each call that throws, Boundary looks at everything that can be seen of the object. */
    private void changesNothing() {
        String refused = """
                append(256) = throws.IllegalArgumentException; about(8) = throws.IllegalArgumentException
                axle(7, 0) = throws.IndexOutOfBoundsException; axle(0, 4) = throws.IllegalArgumentException
                car(3, 0) = throws.IndexOutOfBoundsException; car(0, 6) = throws.IllegalArgumentException
                train(2, 0) = throws.IndexOutOfBoundsException; train(0, 8) = throws.IllegalArgumentException
                setting(4) = throws.IllegalArgumentException; roll(61, 50) = throws.IllegalArgumentException
                roll(4, 100) = throws.IllegalArgumentException; strike(7) = throws.IndexOutOfBoundsException
                weigh(7, 50) = throws.IndexOutOfBoundsException; weigh(0, 100) = throws.IllegalArgumentException
                bill(30, 5) = throws.IllegalArgumentException; bill(0, 10000) = throws.IllegalArgumentException
                set(4, 5) = throws.IllegalArgumentException; set(0, 21) = throws.IllegalArgumentException
                without(7) = throws.IndexOutOfBoundsException; sureness(7) = throws.IndexOutOfBoundsException
                plans(2) = throws.IndexOutOfBoundsException; heavy(-1) = throws.IllegalArgumentException
                runScript(4, 0) = throws.IllegalArgumentException; simulate(0, 61) = throws.IllegalArgumentException
                save(2) = throws.IndexOutOfBoundsException; restore(2) = throws.IndexOutOfBoundsException
                restore(0) = throws.IllegalStateException
                """;
        b.test(0, "A call that throws an exception changes nothing.", Rows.TWO_TRAINS + "type(R0440)\n" + refused
                + "undo() = 6; record() = 7; record() = 8",
                // with 14 states remembered: none is forgotten
                Rows.RICH + refused + "14 times undo() = 13-",
                Rows.RICH + "append(40); record() = throws.IllegalStateException; clearText() = 13",
                Rows.RICH + "clearText(); type(R4(6(0450))); record() = throws.IllegalStateException; about(0) = 7",
                "type(R0440); 30 times record() = 1+; record() = throws.IllegalStateException; roll(4, 50) = throws.IllegalStateException; 14 times undo() = 13-",
                "120 times append(41); append(82) = throws.IllegalStateException; clearText() = 120",
                "bill(0, 5); set(0, 9); leave() = throws.IllegalStateException; bill(0, 0) = 5; 3 times undo() = 2-; setting(0) = 4",
                "roll(4, 50); undo() = 0; undo() = throws.IllegalStateException; about(0) = 0");
    }

    private void none() {
        if (AxleScale.NONE != -1) {
            throw new IllegalStateException("NONE is " + AxleScale.NONE);
        }
        b.test(0, "The constants: `NONE = -1`: There is no such result.", """
                type(R); errorPosition() = -1; clearText(); axlesTold() = -1; suspect() = -1; bill(0, 0) = -1
                roll(4, 50); axle(0, 3) = -1; train(0, 5) = -1; train(0, 6) = -1; train(0, 7) = -1
                roll(4, 50); car(0, 5) = -1; runScript(1, 60000) = -1
                """);
    }
}
