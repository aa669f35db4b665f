/** The boundaries of the text: the terms about it, and the promises 1 to 5. */
final class TextCases {
    /** 120 signs, and just the 30 axles that there may be. */
    private static final String LONGEST = "R" + "0450".repeat(28) + "2(0799)";

    private final Boundary b;

    TextCases(Boundary b) {
        this.b = b;
    }

    void all() {
        buffer();
        record();
        axleOfText();
        repeat();
        openParentheses();
        digitOfRepeat();
        leftToRight();
        errorPosition();
        tooSoon();
        newObject();
        append();
        clearText();
        checksTheText();
        countsTheAxles();
    }

    /** A run that types a text, and asks where the error is and how many axles are told. */
    private static String text(String signs, String error, String told) {
        return "type(" + signs + "); errorPosition() = " + error + "; axlesTold() = " + told;
    }

    private static String right(String signs, int told) {
        return text(signs, "NONE", "" + told);
    }

    private static String wrong(String signs, int error) {
        return text(signs, "" + error, "NONE");
    }

    private void buffer() {
        b.test(0, "The object has a text buffer of at most 120 characters.", """
                clearText() = 0; append(82) = 1; 119 times append(48) = 2+
                append(48) = throws.IllegalStateException; clearText() = 120; clearText() = 0
                """);
    }

    private void record() {
        b.test(0, "A record is the letter R, and then a row: any number of parts",
                // no part, one, and as many as there is room for
                right("R", 0), right("R0440", 1), right("R" + "0440".repeat(29), 29),
                wrong("", 0), wrong("r", 0), wrong("0440", 0), wrong("S0440", 0), wrong("RR", 1),
                wrong("R0440R", 5));
        b.test(0, "There are no blanks.",
                wrong(" R", 0), wrong("R ", 1), wrong("R 0440", 1), wrong("R0 440", 2),
                wrong("R04 40", 3), wrong("R044 0", 4), wrong("R0440 ", 5), wrong("R2 (0440)", 2),
                wrong("R2( 0440)", 3), wrong("R2(0440 )", 7));
    }

    private void axleOfText() {
        b.test(0, "two digits for its pause, 01 to 60",
                right("R0140", 1), right("R6040", 1), right("R0940", 1), right("R1040", 1),
                right("R5940", 1), wrong("R0040", 2), wrong("R6140", 2), wrong("R6940", 2),
                wrong("R7040", 2), wrong("R9940", 2),
                "type(R01406040); record() = 2; axle(0, 0) = 1; axle(1, 0) = 60");
        b.test(0, "and two for its weight, 01 to 99",
                right("R0401", 1), right("R0499", 1), right("R0409", 1), right("R0410", 1),
                right("R0490", 1), wrong("R0400", 4), wrong("R040", 4), wrong("R04:0", 3),
                wrong("R040:", 4), wrong("R04/0", 3), wrong("R040/", 4),
                "type(R04010499); record() = 2; axle(0, 1) = 1; axle(1, 1) = 99");
    }

    private void repeat() {
        b.test(0, "or a repeat: a digit from 2 to 9, \"(\"",
                right("R2(0440)", 2), right("R9(0440)", 9), wrong("R1(0440)", 2),
                wrong("R0(0440)", 2), wrong("R2)0440)", 2), wrong("R9)0440)", 2), wrong("R(0440)", 1),
                wrong("R:(0440)", 1));
        b.test(0, "a row of at least one part",
                wrong("R2()", 3), right("R2(0440)", 2), right("R2(04400550)", 4),
                wrong("R2(2())", 5), right("R2(2(0440))", 4), wrong("R2(04402())", 9),
                wrong("R3(2(0440)2())", 12), wrong("R04402()", 7));
        b.test(0, "and \")\", which means its row so many times.",
                wrong("R2(0440", 7), right("R2(0440)", 2), wrong("R2(0440))", 8), wrong("R)", 1),
                wrong("R0440)", 5), wrong("R2(2(0440)", 10), wrong("R2(0440)]", 8), wrong("R2(0440]", 7),
                """
                // only the row of the repeat, as often as the digit says
                type(R01113(02220333)0444); axlesTold() = 8; record() = 8
                axle(0, 0) = 1; axle(1, 0) = 2; axle(2, 0) = 3; axle(3, 0) = 2; axle(4, 0) = 3
                axle(5, 0) = 2; axle(6, 0) = 3; axle(7, 0) = 4
                axle(0, 1) = 11; axle(5, 1) = 22; axle(6, 1) = 33; axle(7, 1) = 44
                """, """
                type(R2(01112(0222)0333)); record() = 8
                axle(0, 0) = 1; axle(1, 0) = 2; axle(2, 0) = 2; axle(3, 0) = 3
                axle(4, 0) = 1; axle(5, 0) = 2; axle(6, 0) = 2; axle(7, 0) = 3
                """);
    }

    private void openParentheses() {
        b.test(0, "At most 3 parentheses may be open at one time",
                right("R2(2(2(0440)))", 8), wrong("R2(2(2(2(0440))))", 8),
                // one has been closed: there may be another one
                right("R2(2(2(0440)2(0440)))", 16), right("R2(2(2(0440))2(2(0440)))", 16),
                right("R2(2(2(0440)))2(2(2(0440)))", 16), wrong("R2(2(2(0440)))2(2(2(2(0440))))", 21));
        b.test(0, "(so, with 3 open, \"(\" is not allowed",
                wrong("R2(2(2((", 7), wrong("R2(2(2(2(", 8), wrong("R2(2(2(3(", 8), wrong("R2(2(2(6(", 8),
                wrong("R2(2(2(04402(", 12),
                // but as an axle the digit is allowed
                right("R2(2(2(2040)))", 8), right("R2(2(2(6040)))", 8), wrong("R2(2(2(2", 8),
                wrong("R2(2(2(6", 8));
        b.test(0, "and neither is a digit from 7 to 9 for a repeat).",
                wrong("R2(2(2(7", 7), wrong("R2(2(2(8(", 7), wrong("R2(2(2(9(0440", 7),
                wrong("R2(2(2(04407(", 11),
                // with 2 open it is
                right("R2(2(7(0440)))", 28), right("R2(2(9(0440)))", 36), wrong("R2(2(7", 6),
                right("R2(2(2(0440)7(0440)))", 36));
    }

    private void digitOfRepeat() {
        b.test(0, "A digit from 2 to 6 begins a repeat, if \"(\" is behind it, otherwise an axle.",
                right("R2(2040)", 2), right("R2040", 1), right("R6(6040)", 6), right("R6040", 1),
                wrong("R2", 2), wrong("R6", 2), wrong("R6)", 2), wrong("R61", 2),
                // 0 and 1 begin an axle alone, 7 to 9 a repeat alone
                right("R1040", 1), wrong("R1(1040)", 2), right("R0140", 1), wrong("R0(0140)", 2),
                right("R7(0740)", 7), wrong("R7040", 2), right("R9(0940)", 9), wrong("R9040", 2),
                "type(R2(2040)204099); errorPosition() = 13; clearText() = 14",
                "type(R2(2040)20406(6099)); record() = 9; axle(2, 0) = 20; axle(3, 0) = 60; axle(8, 1) = 99");
    }

    private void leftToRight() {
        b.test(0, "The text is read from left to right.",
                wrong("R00)0", 2), wrong("R)00", 1), wrong("x)00", 0), wrong("R0440)00(", 5),
                // what is behind an error changes nothing of it
                wrong("R2()0440", 3), wrong("R70(0440)", 2));
    }

    private void errorPosition() {
        b.test(0, "The error position is the index of the first character that these rules do not allow at its place",
                wrong("x", 0), wrong("Rx", 1), wrong("R0x", 2), wrong("R04x", 3), wrong("R044x", 4),
                wrong("R0440x", 5), wrong("R2x", 2), wrong("R2(x", 3), wrong("R2(0440x", 7),
                wrong("R2(0440)x", 8), wrong("R7x", 2),
                "append(0) = 1; errorPosition() = 0", "append(255) = 1; errorPosition() = 0",
                // 82 + 128, and 48 + 128 where 0 is allowed
                "append(210) = 1; errorPosition() = 0",
                "type(R); append(176) = 2; errorPosition() = 1",
                "type(R04); append(180) = 4; errorPosition() = 3",
                "type(R0440); append(0) = 6; errorPosition() = 5",
                // the last of 120 signs, and the one behind a row that just fits
                "type(R" + "0440".repeat(29) + "04x); clearText() = 120",
                "type(R" + "0440".repeat(29) + "04x); errorPosition() = 119; axlesTold() = NONE",
                "type(R" + "0440".repeat(29) + "x); errorPosition() = 117; axlesTold() = NONE");
        b.test(0, "(a digit is not allowed if no number that is allowed begins with it and those before it)",
                wrong("R00", 2), wrong("R61", 2), wrong("R69", 2), wrong("R7", 2), wrong("R70", 2),
                wrong("R0400", 4), wrong("R2(2(2(7", 7), wrong("R2(2(2(61", 8), wrong("R2(2(2(00", 8),
                // a 0 before it is no error yet
                wrong("R0", 2), wrong("R040", 4), wrong("R6", 2));
    }

    private void tooSoon() {
        b.test(0, "if the text ends too soon, it is the length of the text.",
                wrong("", 0), wrong("R0", 2), wrong("R04", 3), wrong("R044", 4), right("R0440", 1),
                wrong("R2", 2), wrong("R7", 2), wrong("R2(", 3), wrong("R2(0440", 7), wrong("R2(2(0440)", 10),
                wrong("R2(2(2(0440)", 12), wrong("R2(2(2(0440))", 13), right("R2(2(2(0440)))", 8),
                // a full text
                wrong("R" + "0440".repeat(29) + "044", 120), wrong("R2(" + "0440".repeat(29) + "2", 120),
                wrong("R3(2(" + "0440".repeat(28) + "04", 119), wrong("R" + "2(0440)".repeat(16) + "2(0440", 119),
                right("R" + "2(0440)".repeat(17), 34));
    }

    private void newObject() {
        b.test(1, "Creates a scale that has recorded nothing.", Rows.EMPTY, """
                axle(0, 0) = throws.IndexOutOfBoundsException
                car(0, 0) = throws.IndexOutOfBoundsException
                train(0, 0) = throws.IndexOutOfBoundsException
                strike(0) = throws.IndexOutOfBoundsException
                weigh(0, 1) = throws.IndexOutOfBoundsException
                leave() = throws.IllegalStateException; undo() = throws.IllegalStateException
                restore(0) = throws.IllegalStateException; restore(1) = throws.IllegalStateException
                """, """
                without(0) = throws.IndexOutOfBoundsException; suspect() = NONE; bestBase() = 1
                sureness(0) = throws.IndexOutOfBoundsException
                plans(0) = throws.IndexOutOfBoundsException; heavy(0) = 0
                """, """
                clearText() = 0; errorPosition() = 0; axlesTold() = NONE; record() = throws.IllegalStateException
                """, """
                bill(0, 0) = NONE; bill(1, 0) = NONE; bill(28, 0) = NONE; bill(29, 0) = NONE
                """);
    }

    private void append() {
        b.test(2, "Appends a character to the text buffer.",
                "type(R0440); errorPosition() = NONE; append(82) = 6; errorPosition() = 5");
        b.test(2, "`c`: character code, 0 to 255", """
                append(-1) = throws.IllegalArgumentException; append(0) = 1; append(1) = 2
                append(254) = 3; append(255) = 4; append(256) = throws.IllegalArgumentException
                clearText() = 4
                """);
        b.test(2, "Returns the new length of the text.", "120 times append(255) = 1+; clearText() = 120",
                "append(82) = 1; clearText() = 1; append(82) = 1; append(82) = 2");
        b.test(2, "Throws `IllegalArgumentException` if c is out of range", """
                append(-1) = throws.IllegalArgumentException; append(256) = throws.IllegalArgumentException
                append(-2147483648) = throws.IllegalArgumentException
                append(2147483647) = throws.IllegalArgumentException
                // 82 + 256, and 82 - 256
                append(338) = throws.IllegalArgumentException; append(-174) = throws.IllegalArgumentException
                errorPosition() = 0; clearText() = 0
                """, Rows.RICH + "append(256) = throws.IllegalArgumentException");
        b.test(2, "Throws `IllegalStateException` if the text already has 120 characters", """
                119 times append(82) = 1+; append(82) = 120; append(82) = throws.IllegalStateException
                append(0) = throws.IllegalStateException; clearText() = 120; append(82) = 1
                """, "type(" + LONGEST + "); append(41) = throws.IllegalStateException; record() = 30");
    }

    private void clearText() {
        b.test(3, "Empties the text buffer.", """
                type(R0440); clearText() = 5; errorPosition() = 0; axlesTold() = NONE; append(82) = 1
                errorPosition() = NONE; axlesTold() = 0
                """, """
                // nothing of what was open before is open any more
                type(R2(2(2(0440); errorPosition() = 11; clearText() = 11
                type(R2(2(2(0440))); errorPosition() = 13; append(41) = 14; errorPosition() = NONE
                """);
        b.test(3, "Returns the previous length of the text.", "clearText() = 0; clearText() = 0",
                "append(0) = 1; clearText() = 1; clearText() = 0",
                "120 times append(82) = 1+; clearText() = 120; clearText() = 0");
    }

    private void checksTheText() {
        b.test(4, "Checks the text.", """
                // with each sign anew
                errorPosition() = 0; append(82); errorPosition() = NONE; append(50); errorPosition() = 2
                append(40); errorPosition() = 3; append(48); errorPosition() = 4; append(52)
                errorPosition() = 5; append(57); errorPosition() = 6; append(57); errorPosition() = 7
                append(41); errorPosition() = NONE; append(41); errorPosition() = 8; append(48)
                errorPosition() = 8
                """);
        b.test(4, "Returns the error position of the text; NONE if it is a record.",
                right("R", 0), wrong("", 0), right(LONGEST, 30), right("R2(" + "0440".repeat(29) + ")", 58),
                wrong(LONGEST.substring(0, 119), 119));
    }

    private void countsTheAxles() {
        b.test(5, "Counts the axles of the text.",
                right("R", 0), right("R0440", 1), right("R" + "0440".repeat(29), 29), right(LONGEST, 30));
        b.test(5, "Returns how many axles it has, with all repeats",
                right("R9(0440)", 9), right("R9(9(0440))", 81), right("R9(9(9(0440)))", 729),
                right("R9(9(9(0440)))0440", 730), right("R04409(9(9(0440)0440)0440)0440", 821),
                // the most that 120 signs can tell
                right("R9(9(9(" + "0440".repeat(27) + ")))", 19683),
                // more than can be recorded is told all the same
                right("R5(6(0440))0440", 31), right("R5(6(0440))", 30));
        b.test(5, "NONE if it is no record.", wrong("", 0), wrong("R2(0440", 7), wrong("R0440)", 5),
                wrong("R" + "0440".repeat(29) + "044", 120), wrong("r", 0));
    }
}
