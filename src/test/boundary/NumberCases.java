/** The boundaries of what there is: the promises 6 to 10. */
final class NumberCases {
    private static final String OUT_OF_RANGE = """
            %1$s-1) = throws.%2$s; %1$s%3$d) = throws.%2$s
            %1$s-2147483648) = throws.%2$s; %1$s2147483647) = throws.%2$s
            """;

    private final Boundary b;

    NumberCases(Boundary b) {
        this.b = b;
    }

    void all() {
        about();
        aboutBills();
        axle();
        axleRefused();
        car();
        carRefused();
        train();
        trainRefused();
        setting();
    }

    /** The numbers -1 and 'first', which is the first one too large, and the least and greatest int. */
    private static String outOfRange(String callUpToIt, String exception, int first) {
        return OUT_OF_RANGE.formatted(callUpToIt, exception, first);
    }

    private void about() {
        b.noBoundary(6, "Returns that number.");
        b.test(6, "Returns a number.", Rows.EMPTY, Rows.TWO_TRAINS + """
                about(0) = 7; about(1) = 2; about(2) = 3; about(3) = 1; about(4) = 183; about(5) = 27
                about(6) = 0; about(7) = 0
                """);
        b.test(6, "0: the axles; 1: the trains; 2: the cars; 3: the stray axles; 4: the weight of all cars; 5: what the plans of all trains cost together",
                """
                // one axle alone
                roll(60, 99); about(0) = 1; about(1) = 1; about(2) = 0; about(3) = 1; about(4) = 0
                about(5) = 15
                """, """
                // full: as many cars as there can be, as heavy as they can be
                30 times roll(4, 99); about(0) = 30; about(1) = 1; about(2) = 15; about(3) = 0
                about(4) = 2970; about(5) = 56
                """, Rows.FULL + """
                // full: as many trains and as many stray axles as there can be
                set(3, 2); set(2, 60); about(0) = 30; about(1) = 30; about(2) = 0; about(3) = 30
                about(4) = 0; about(5) = 1800
                """);
        b.test(6, "Throws `IllegalArgumentException` if what is not 0 to 7",
                outOfRange("about(", "IllegalArgumentException", 8),
                Rows.RICH + outOfRange("about(", "IllegalArgumentException", 8));
    }

    private void aboutBills() {
        b.test(6, "6: the bills for trains that there are", """
                bill(0, 5); about(6) = 0; roll(60, 50); about(6) = 1; bill(1, 5); about(6) = 1
                roll(39, 50); about(6) = 1; roll(40, 50); about(6) = 2; bill(0, 0); about(6) = 1
                """, Rows.FULL_BY_TEXT + """
                bill(29, 1); about(6) = 0; set(3, 4); about(6) = 1; set(3, 5); about(6) = 0
                """);
        b.test(6, "7: how many of these do not say what the train weighs", """
                roll(1, 50); roll(4, 49); about(7) = 0; bill(0, 98); about(7) = 1; bill(0, 99); about(7) = 0
                bill(0, 100); about(7) = 1; bill(0, 0); about(7) = 0
                """, """
                // a train without a car weighs nothing, which no bill says
                roll(1, 50); bill(0, 1); about(7) = 1; bill(0, 50); about(7) = 1
                """, """
                // a bill for a train that is not there, that of no axles
                bill(0, 1); about(6) = 0; about(7) = 0; bill(29, 9999); about(7) = 0
                """, """
                30 times roll(4, 99); bill(0, 2970); about(7) = 0; bill(0, 9999); about(7) = 1
                """);
    }

    private void axle() {
        b.noBoundary(7, "Returns that number.", "`i`: axle");
        b.test(7, "Returns a number of an axle.", Rows.TWO_TRAINS + """
                // the first one and the last one
                axle(0, 0) = 60; axle(0, 1) = 40; axle(0, 2) = 0; axle(0, 3) = 0
                axle(6, 0) = 7; axle(6, 1) = 99; axle(6, 2) = 1; axle(6, 3) = NONE
                """, Rows.FULL + "axle(29, 0) = 4; axle(29, 1) = 50; axle(29, 2) = 0; axle(29, 3) = 14");
        b.test(7, "0: its pause; 1: its weight; 2: its train", """
                roll(1, 1); roll(60, 99); axle(0, 0) = 1; axle(0, 1) = 1; axle(0, 2) = 0
                axle(1, 0) = 60; axle(1, 1) = 99; axle(1, 2) = 1
                """);
        b.test(7, "3: its car, NONE if it is stray", Rows.TWO_TRAINS + """
                axle(3, 3) = 1; axle(4, 3) = 2; axle(5, 3) = 2; axle(6, 3) = NONE
                """, "roll(4, 50); axle(0, 3) = NONE; roll(4, 50); axle(0, 3) = 0; axle(1, 3) = 0");
    }

    private void axleRefused() {
        b.test(7, "Throws `IndexOutOfBoundsException` if there is no such axle",
                "axle(0, 0) = throws.IndexOutOfBoundsException", Rows.TWO_TRAINS + """
                axle(-1, 0) = throws.IndexOutOfBoundsException; axle(6, 0) = 7
                axle(7, 0) = throws.IndexOutOfBoundsException
                axle(-2147483648, 3) = throws.IndexOutOfBoundsException
                axle(2147483647, 3) = throws.IndexOutOfBoundsException
                """, Rows.FULL_BY_TEXT + """
                axle(29, 0) = 4; axle(30, 0) = throws.IndexOutOfBoundsException
                strike(0); axle(28, 0) = 4; axle(29, 0) = throws.IndexOutOfBoundsException
                // what is not 0 to 3 comes second
                axle(29, 4) = throws.IndexOutOfBoundsException; axle(-1, -1) = throws.IndexOutOfBoundsException
                """);
        b.test(7, "Throws `IllegalArgumentException` if what is not 0 to 3",
                Rows.RICH + outOfRange("axle(0, ", "IllegalArgumentException", 4)
                        + outOfRange("axle(6, ", "IllegalArgumentException", 4));
    }

    private void car() {
        b.noBoundary(8, "Returns that number.", "`c`: car");
        b.test(8, "Returns a number of a car.", Rows.TWO_TRAINS + """
                car(0, 0) = 0; car(0, 1) = 81; car(0, 2) = 4; car(0, 3) = 150; car(0, 4) = 0; car(0, 5) = NONE
                car(2, 0) = 4; car(2, 1) = 42; car(2, 2) = 6; car(2, 3) = 100; car(2, 4) = 1; car(2, 5) = NONE
                """);
        b.test(8, "0: its first axle; 1: its weight; 2: its pause; 3: its speed; 4: its train", Rows.FULL + """
                car(0, 0) = 0; car(14, 0) = 28; car(14, 1) = 100; car(14, 2) = 4; car(14, 3) = 150
                car(14, 4) = 0; car(14, 5) = 4
                """, """
                // the pause of the second axle, not that of the first one
                set(0, 1); roll(60, 1); roll(1, 1); car(0, 1) = 2; car(0, 2) = 1; car(0, 3) = 600
                """, """
                // the last train of several without a car
                roll(1, 50); roll(60, 50); roll(60, 99); roll(4, 99); car(0, 0) = 2; car(0, 1) = 198
                car(0, 4) = 2; car(0, 5) = NONE
                """);
        b.test(8, "5: the ticks between it and the car before it, NONE of the first one of its train",
                Rows.TWO_TRAINS + "car(0, 5) = NONE; car(1, 5) = 9; car(2, 5) = NONE", """
                // just the gap, and one tick less; the least
                roll(1, 50); roll(4, 50); roll(6, 50); roll(4, 50); roll(5, 50); roll(4, 50); car(1, 5) = 6
                car(2, 5) = 5
                """, """
                set(1, 1); roll(1, 50); roll(4, 50); roll(1, 50); roll(4, 50); car(1, 5) = 1
                """, """
                // more than 60: a stray axle is between them
                set(3, 60); roll(1, 50); roll(4, 50); roll(59, 50); roll(59, 50); roll(4, 50); car(1, 5) = 118
                """);
    }

    private void carRefused() {
        b.test(8, "Throws `IndexOutOfBoundsException` if there is no such car",
                "car(0, 0) = throws.IndexOutOfBoundsException",
                // an axle, but no car
                "roll(4, 50); car(0, 0) = throws.IndexOutOfBoundsException",
                Rows.RICH + "car(2, 0) = 4\n" + """
                car(-1, 0) = throws.IndexOutOfBoundsException; car(3, 0) = throws.IndexOutOfBoundsException
                car(-2147483648, 0) = throws.IndexOutOfBoundsException
                car(2147483647, 0) = throws.IndexOutOfBoundsException
                car(3, 6) = throws.IndexOutOfBoundsException; car(-1, -1) = throws.IndexOutOfBoundsException
                """, Rows.FULL_BY_TEXT + """
                car(14, 0) = 28; car(15, 0) = throws.IndexOutOfBoundsException
                // 14 cars; the stray axle is between the last two of them, where it makes a gap longer
                strike(0); car(13, 0) = 27; car(14, 0) = throws.IndexOutOfBoundsException
                """);
        b.test(8, "Throws `IllegalArgumentException` if what is not 0 to 5",
                Rows.RICH + outOfRange("car(0, ", "IllegalArgumentException", 6)
                        + outOfRange("car(2, ", "IllegalArgumentException", 6));
    }

    private void train() {
        b.noBoundary(9, "Returns that number.", "`t`: train");
        b.test(9, "Returns a number of a train.", Rows.TWO_TRAINS + """
                train(0, 0) = 0; train(0, 1) = 4; train(0, 2) = 2; train(0, 3) = 141; train(0, 4) = 4
                train(0, 5) = 81; train(0, 6) = 30; train(0, 7) = NONE
                train(1, 0) = 4; train(1, 1) = 3; train(1, 2) = 1; train(1, 3) = 42; train(1, 4) = 23
                train(1, 5) = 42; train(1, 6) = 0; train(1, 7) = NONE
                """);
        b.test(9, "0: its first axle; 1: its axles; 2: its cars; 3: its weight; 4: what its plan costs", """
                // one axle
                roll(4, 99); train(0, 0) = 0; train(0, 1) = 1; train(0, 2) = 0; train(0, 3) = 0; train(0, 4) = 15
                """, """
                30 times roll(4, 99); train(0, 0) = 0; train(0, 1) = 30; train(0, 2) = 15; train(0, 3) = 2970
                train(0, 4) = 56; set(3, 2); train(29, 0) = 29; train(29, 1) = 1; train(29, 2) = 0
                train(29, 3) = 0; train(29, 4) = 15
                """);
        b.test(9, "5: its greatest car's weight, NONE without a car", """
                roll(4, 1); train(0, 5) = NONE; roll(4, 1); train(0, 5) = 2
                roll(6, 99); train(0, 5) = 2; roll(4, 99); train(0, 5) = 198
                roll(6, 98); roll(4, 98); train(0, 5) = 198; roll(60, 1); train(1, 5) = NONE
                """);
        b.test(9, "6: the difference of the speeds of its fastest and its slowest car, NONE without a car", """
                roll(4, 50); train(0, 6) = NONE
                // one car alone
                roll(4, 50); train(0, 6) = 0
                // 150 and 85, each rounded down
                roll(6, 50); roll(7, 50); train(0, 6) = 65
                roll(6, 50); roll(3, 50); train(0, 6) = 115
                roll(60, 50); train(1, 6) = NONE
                """, """
                // the fastest one and the slowest one that there can be
                set(3, 60); set(2, 60); set(0, 20)
                roll(1, 50); roll(1, 50); roll(59, 50); roll(59, 50); about(2) = 2; train(0, 6) = 590
                """);
        b.test(9, "7: its bill, NONE without one", """
                roll(4, 50); train(0, 7) = NONE; bill(0, 1); train(0, 7) = 1; bill(0, 9999); train(0, 7) = 9999
                bill(0, 0); train(0, 7) = NONE
                """, Rows.FULL_BY_TEXT + """
                set(3, 2); train(29, 7) = NONE; bill(29, 1); train(29, 7) = 1; train(28, 7) = NONE
                """);
    }

    private void trainRefused() {
        b.test(9, "Throws `IndexOutOfBoundsException` if there is no such train",
                "train(0, 0) = throws.IndexOutOfBoundsException; bill(0, 5); train(0, 7) = throws.IndexOutOfBoundsException",
                Rows.RICH + """
                train(1, 0) = 4; train(2, 0) = throws.IndexOutOfBoundsException
                train(-1, 0) = throws.IndexOutOfBoundsException
                train(-2147483648, 0) = throws.IndexOutOfBoundsException
                train(2147483647, 0) = throws.IndexOutOfBoundsException
                train(2, 8) = throws.IndexOutOfBoundsException; train(-1, -1) = throws.IndexOutOfBoundsException
                // a bill makes no train
                train(29, 7) = throws.IndexOutOfBoundsException
                """, Rows.FULL_BY_TEXT + """
                train(1, 0) = throws.IndexOutOfBoundsException; set(3, 2); train(29, 0) = 29
                train(30, 0) = throws.IndexOutOfBoundsException
                """);
        b.test(9, "Throws `IllegalArgumentException` if what is not 0 to 7",
                Rows.RICH + outOfRange("train(0, ", "IllegalArgumentException", 8)
                        + outOfRange("train(1, ", "IllegalArgumentException", 8));
    }

    private void setting() {
        b.noBoundary(10, "Returns that setting.");
        b.test(10, "Returns a setting.", "setting(0) = 4; setting(1) = 6; setting(2) = 15; setting(3) = 40",
                "set(0, 1); set(1, 2); set(2, 3); set(3, 4); setting(0) = 1; setting(1) = 2; setting(2) = 3; setting(3) = 4",
                "set(2, 0); setting(2) = 0; set(3, 60); setting(3) = 60");
        b.test(10, "`what`: 0 to 3", """
                setting(-1) = throws.IllegalArgumentException; setting(0) = 4; setting(3) = 40
                setting(4) = throws.IllegalArgumentException
                """);
        b.test(10, "Throws `IllegalArgumentException` if what is out of range",
                outOfRange("setting(", "IllegalArgumentException", 4),
                Rows.RICH + outOfRange("setting(", "IllegalArgumentException", 4));
    }
}
