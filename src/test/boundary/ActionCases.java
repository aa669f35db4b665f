/** The boundaries of the actions: the terms about them, and the promises 11 to 18. */
final class ActionCases {
    private static final String UNDO_TO_THE_END = "14 times undo() = 13-; undo() = throws.IllegalStateException\n";

    private final Boundary b;

    ActionCases(Boundary b) {
        this.b = b;
    }

    void all() {
        state();
        actions();
        remembered();
        mostRemembered();
        roll();
        rollRefused();
        record();
        recordRefused();
        strike();
        strikeLast();
        weigh();
        bill();
        billRefused();
        set();
        leave();
        leaveBills();
        undo();
    }

    private void state() {
        b.test(0, "change the state, which consists of everything but the text and the save slots.", """
                // undo takes back neither the text nor a save slot
                roll(4, 50); save(0) = 1; type(R0440); roll(4, 50); clearText(); undo() = 1
                clearText() = 0; undo() = 0; about(0) = 0; restore(0) = 1; about(0) = 1
                """, """
                roll(4, 50); type(R0440); undo() = 0; clearText() = 5
                """, """
                // but axles, settings and bills
                roll(4, 50); set(0, 9); bill(29, 5); 3 times undo() = 2-; about(0) = 0; setting(0) = 4
                bill(29, 0) = NONE
                """);
    }

    private void actions() {
        b.test(0, "Each call of one of them that does not throw an exception is an action, also if nothing becomes different (undo is none).",
                """
                // seven actions, of which only the first bill and the roll make anything different
                roll(4, 50); weigh(0, 50) = 50; set(0, 4) = 4; bill(0, 0) = NONE; bill(0, 5) = NONE
                bill(0, 5) = 5; type(R); record() = 1; 7 times undo() = 6-; undo() = throws.IllegalStateException
                """, """
                // a call that throws is none
                roll(4, 50); roll(4, 100) = throws.IllegalArgumentException
                record() = throws.IllegalStateException; strike(1) = throws.IndexOutOfBoundsException
                weigh(0, 0) = throws.IllegalArgumentException; bill(30, 5) = throws.IllegalArgumentException
                set(0, 0) = throws.IllegalArgumentException; undo() = 0; leave() = throws.IllegalStateException
                undo() = throws.IllegalStateException
                """, """
                // an undo can't be taken back, and makes room for no other one
                roll(4, 50); roll(5, 50); undo() = 1; undo() = 0; undo() = throws.IllegalStateException
                roll(6, 50) = 0; undo() = 0; about(0) = 0
                """);
    }

    private void remembered() {
        b.test(0, "Before each action, the state is remembered.", Rows.TWO_TRAINS + """
                type(R0101); bill(0, 9)
                roll(8, 8); undo() = 8; about(0) = 7
                record() = 8; undo() = 8; about(0) = 7
                strike(6) = 6; undo() = 8; about(0) = 7; axle(6, 1) = 99
                strike(0) = 6; undo() = 8; axle(0, 0) = 60; axle(1, 0) = 4
                weigh(6, 1) = 99; undo() = 8; axle(6, 1) = 99
                bill(0, 8) = 9; undo() = 8; train(0, 7) = 9
                set(3, 60) = 40; undo() = 8; setting(3) = 40; about(1) = 2
                leave() = 141; undo() = 8; about(0) = 7; train(0, 7) = 9
                """);
    }

    private void mostRemembered() {
        b.test(0, "At most 14 states are remembered",
                "13 times roll(4, 50) = 0+; 13 times undo() = 12-; undo() = throws.IllegalStateException; about(0) = 0",
                "14 times roll(4, 50) = 0+\n" + UNDO_TO_THE_END + "about(0) = 0",
                "15 times roll(4, 50) = 0+\n" + UNDO_TO_THE_END + "about(0) = 1");
        b.test(0, "when one more is remembered, the oldest one is forgotten.",
                "16 times roll(4, 50) = 0+\n" + UNDO_TO_THE_END + "about(0) = 2",
                // more than twice as many
                "30 times roll(4, 50) = 0+\n" + UNDO_TO_THE_END + "about(0) = 16",
                """
                // and with some taken back meanwhile
                20 times roll(4, 50) = 0+; 5 times undo() = 13-; about(0) = 15; 3 times roll(4, 51) = 15+
                12 times undo() = 11-; undo() = throws.IllegalStateException; about(0) = 6
                """);
        b.test(0, "restore is not an action.", """
                roll(4, 50); save(0) = 1; restore(0) = 1; undo() = throws.IllegalStateException
                roll(4, 50); undo() = 0; undo() = throws.IllegalStateException; about(0) = 1
                """);
    }

    private void roll() {
        b.test(11, "An axle rolls over the scale.", """
                roll(1, 99) = 0; roll(60, 1) = 1; axle(0, 0) = 1; axle(0, 1) = 99; axle(1, 0) = 60; axle(1, 1) = 1
                """);
        b.test(11, "`pause`: 1 to 60", """
                roll(0, 50) = throws.IllegalArgumentException; roll(1, 50) = 0; roll(60, 50) = 1
                roll(61, 50) = throws.IllegalArgumentException; axle(0, 0) = 1; axle(1, 0) = 60
                """);
        b.test(11, "`weight`: 1 to 99", """
                roll(4, 0) = throws.IllegalArgumentException; roll(4, 1) = 0; roll(4, 99) = 1
                roll(4, 100) = throws.IllegalArgumentException; axle(0, 1) = 1; axle(1, 1) = 99
                """);
        b.test(11, "Returns its number.", "30 times roll(4, 50) = 0+",
                "roll(4, 50) = 0; strike(0) = 0; roll(4, 50) = 0",
                "5 times roll(4, 50) = 0+; strike(2) = 4; roll(4, 50) = 4",
                Rows.TWO_TRAINS + "leave(); roll(4, 50) = 3");
    }

    private void rollRefused() {
        b.test(11, "Throws `IllegalArgumentException` if pause or weight is out of range", Rows.RICH + """
                roll(0, 50) = throws.IllegalArgumentException; roll(61, 50) = throws.IllegalArgumentException
                roll(4, 0) = throws.IllegalArgumentException; roll(4, 100) = throws.IllegalArgumentException
                roll(-1, 50) = throws.IllegalArgumentException; roll(4, -1) = throws.IllegalArgumentException
                roll(-2147483648, 50) = throws.IllegalArgumentException
                roll(2147483647, 50) = throws.IllegalArgumentException
                roll(4, -2147483648) = throws.IllegalArgumentException
                roll(4, 2147483647) = throws.IllegalArgumentException
                roll(0, 0) = throws.IllegalArgumentException; roll(4, 50) = 7
                """, "roll(0, 50) = throws.IllegalArgumentException; roll(4, 50) = 0",
                // with 30 axles, too
                Rows.FULL_BY_TEXT + """
                roll(61, 50) = throws.IllegalArgumentException; roll(4, 100) = throws.IllegalArgumentException
                """);
        b.test(11, "Throws `IllegalStateException` if there are 30", Rows.FULL_BY_TEXT + """
                roll(4, 50) = throws.IllegalStateException; strike(29) = 29; roll(4, 51) = 29
                roll(4, 50) = throws.IllegalStateException; undo() = 2; roll(4, 52) = 29
                leave(); roll(4, 53) = 0
                """, "29 times roll(4, 50); roll(4, 50) = 29; roll(4, 50) = throws.IllegalStateException");
    }

    private void record() {
        b.test(12, "Records the axles of the text behind all others.", """
                roll(7, 70); type(R01016099); record() = 3; axle(0, 0) = 7; axle(0, 1) = 70; axle(1, 0) = 1
                axle(1, 1) = 1; axle(2, 0) = 60; axle(2, 1) = 99
                // behind those
                record() = 5; axle(3, 0) = 1; axle(4, 1) = 99
                """, """
                // into the last place
                29 times roll(4, 50); type(R0599); record() = 30; axle(28, 0) = 4; axle(29, 0) = 5; axle(29, 1) = 99
                """, """
                // a long one, and then a shorter one
                type(R9(0450)); record() = 9; clearText(); type(R0599); record() = 10; axle(9, 0) = 5
                """);
        b.test(12, "Keeps the text.", """
                type(R0450); record() = 1; errorPosition() = NONE; axlesTold() = 1; clearText() = 5
                """, """
                type(R2(2(2(0450)))); record() = 8; record() = 16; record() = 24
                record() = throws.IllegalStateException; axlesTold() = 8; clearText() = 14
                """);
        b.test(12, "Returns the number of axles then.", """
                // a record without an axle
                type(R); record() = 0; undo() = 0; record() = 0; roll(4, 50); record() = 1
                """, "type(R5(6(0450))); record() = 30", Rows.FULL_BY_TEXT + "append(82); record() = 30; undo() = 1",
                "type(R0450); 30 times record() = 1+; record() = throws.IllegalStateException");
    }

    private void recordRefused() {
        b.test(12, "Throws `IllegalStateException` if the text is no record",
                "record() = throws.IllegalStateException",
                "type(r0450); record() = throws.IllegalStateException",
                "type(R040); record() = throws.IllegalStateException; append(48); record() = throws.IllegalStateException",
                "type(R045); append(49); record() = 1",
                "type(R2(0450); record() = throws.IllegalStateException; append(41); record() = 2",
                "type(R0450)); record() = throws.IllegalStateException",
                "type(R0450); record() = 1; append(32); record() = throws.IllegalStateException; about(0) = 1",
                Rows.RICH + "append(40); record() = throws.IllegalStateException");
        b.test(12, "or there would be more than 30",
                "type(R5(6(0450))0450); axlesTold() = 31; record() = throws.IllegalStateException; about(0) = 0",
                "roll(4, 50); type(R5(6(0450))); record() = throws.IllegalStateException; about(0) = 1",
                "29 times roll(4, 50); type(R2(0450)); record() = throws.IllegalStateException; about(0) = 29",
                "28 times roll(4, 50); type(R2(0450)); record() = 30",
                "type(R9(9(9(0450)))); axlesTold() = 729; record() = throws.IllegalStateException; about(0) = 0",
                "type(R9(9(9(" + "0450".repeat(27) + ")))); record() = throws.IllegalStateException; axlesTold() = 19683",
                Rows.FULL_BY_TEXT + "type(R0450); record() = throws.IllegalStateException; about(0) = 30");
    }

    private void strike() {
        b.noBoundary(13, "`i`: axle");
        b.test(13, "its pause is added to that of the axle behind it, at most 60", """
                roll(1, 50); roll(30, 51); roll(29, 52); strike(1) = 2; axle(1, 0) = 59; axle(1, 1) = 52
                """, """
                roll(1, 50); roll(30, 51); roll(30, 52); strike(1) = 2; axle(1, 0) = 60
                """, """
                roll(1, 50); roll(31, 51); roll(30, 52); strike(1) = 2; axle(1, 0) = 60
                """, """
                roll(1, 50); roll(60, 51); roll(60, 52); roll(7, 53); strike(1) = 3; axle(1, 0) = 60
                axle(2, 0) = 7; strike(1) = 2; axle(1, 0) = 60; axle(1, 1) = 53
                """, """
                // that of the first one, too
                roll(10, 50); roll(5, 51); strike(0) = 1; axle(0, 0) = 15; axle(0, 1) = 51
                """, """
                // the sum is at least the end: a train begins; and one tick less
                roll(1, 50); roll(20, 51); roll(20, 52); strike(1); about(1) = 2
                undo(); set(3, 41); strike(1); about(1) = 1
                """);
        b.test(13, "those behind it get numbers that are smaller by 1.", """
                type(R0110021203130414); record(); strike(1) = 3; axle(0, 1) = 10; axle(1, 1) = 13; axle(2, 1) = 14
                axle(3, 1) = throws.IndexOutOfBoundsException; strike(0) = 2; axle(0, 1) = 13; axle(1, 1) = 14
                """, Rows.FULL_BY_TEXT + """
                weigh(29, 99); weigh(28, 98); strike(0) = 29; axle(28, 1) = 99; axle(27, 1) = 98
                axle(29, 1) = throws.IndexOutOfBoundsException; roll(4, 1) = 29; axle(29, 0) = 4; axle(29, 1) = 1
                """);
    }

    private void strikeLast() {
        b.test(13, "Strikes an axle out", """
                // none is behind the last one
                roll(10, 50); roll(5, 51); roll(6, 52); strike(2) = 2; axle(0, 0) = 10; axle(1, 0) = 5
                // and nothing is left of it for the next one
                roll(7, 53) = 2; axle(2, 0) = 7
                """, Rows.FULL_BY_TEXT + "strike(29) = 29; axle(28, 0) = 4; roll(9, 50) = 29; axle(29, 0) = 9");
        b.test(13, "Returns the number of axles then.", "roll(4, 50); strike(0) = 0; about(0) = 0",
                Rows.FULL_BY_TEXT + "30 times strike(0) = 29-; about(0) = 0");
        b.test(13, "Throws `IndexOutOfBoundsException` if there is no such axle",
                "strike(0) = throws.IndexOutOfBoundsException",
                "roll(4, 50); strike(0) = 0; strike(0) = throws.IndexOutOfBoundsException",
                Rows.RICH + """
                strike(-1) = throws.IndexOutOfBoundsException; strike(7) = throws.IndexOutOfBoundsException
                strike(-2147483648) = throws.IndexOutOfBoundsException
                strike(2147483647) = throws.IndexOutOfBoundsException; strike(6) = 6
                strike(6) = throws.IndexOutOfBoundsException
                """, Rows.FULL_BY_TEXT + "strike(30) = throws.IndexOutOfBoundsException; strike(29) = 29");
    }

    private void weigh() {
        b.noBoundary(14, "`i`: axle");
        b.test(14, "Puts the weight of an axle right.", """
                roll(4, 50); roll(5, 51); roll(6, 52); weigh(0, 1) = 50; weigh(2, 99) = 52; axle(0, 1) = 1
                axle(1, 1) = 51; axle(2, 1) = 99; axle(0, 0) = 4; axle(2, 0) = 6
                """, Rows.FULL_BY_TEXT + "weigh(29, 99) = 50; axle(29, 1) = 99; axle(28, 1) = 50");
        b.test(14, "`weight`: 1 to 99", """
                roll(4, 50); weigh(0, 0) = throws.IllegalArgumentException; weigh(0, 1) = 50; weigh(0, 99) = 1
                weigh(0, 100) = throws.IllegalArgumentException; axle(0, 1) = 99
                """);
        b.test(14, "Returns its previous weight.", "roll(4, 1); weigh(0, 1) = 1; weigh(0, 99) = 1; weigh(0, 2) = 99");
        b.test(14, "Throws `IndexOutOfBoundsException` if there is no such axle",
                "weigh(0, 50) = throws.IndexOutOfBoundsException", Rows.RICH + """
                weigh(-1, 50) = throws.IndexOutOfBoundsException; weigh(7, 50) = throws.IndexOutOfBoundsException
                weigh(-2147483648, 50) = throws.IndexOutOfBoundsException
                weigh(2147483647, 50) = throws.IndexOutOfBoundsException
                // the weight comes second
                weigh(7, 0) = throws.IndexOutOfBoundsException; weigh(-1, 100) = throws.IndexOutOfBoundsException
                """, Rows.FULL_BY_TEXT + "weigh(30, 50) = throws.IndexOutOfBoundsException; weigh(29, 50) = 50");
        b.test(14, "Throws `IllegalArgumentException` if weight is out of range", Rows.RICH + """
                weigh(0, 0) = throws.IllegalArgumentException; weigh(6, 100) = throws.IllegalArgumentException
                weigh(6, -1) = throws.IllegalArgumentException
                weigh(0, -2147483648) = throws.IllegalArgumentException
                weigh(6, 2147483647) = throws.IllegalArgumentException
                """);
    }

    private void bill() {
        b.test(15, "Writes a bill, or takes it away.", """
                roll(4, 50); bill(0, 7); about(6) = 1; bill(0, 0); about(6) = 0; train(0, 7) = NONE
                """);
        b.test(15, "`t`: train, 0 to 29, whether it is there or not", """
                bill(-1, 5) = throws.IllegalArgumentException; bill(0, 5) = NONE; bill(29, 6) = NONE
                bill(30, 5) = throws.IllegalArgumentException; bill(0, 0) = 5; bill(29, 0) = 6
                """, Rows.FULL_BY_TEXT + """
                set(3, 2); bill(0, 5) = NONE; bill(29, 6) = NONE; train(0, 7) = 5; train(29, 7) = 6
                bill(30, 5) = throws.IllegalArgumentException
                """);
        b.test(15, "`v`: what it says, 1 to 9999, or 0 for none", """
                roll(4, 50); bill(0, -1) = throws.IllegalArgumentException; bill(0, 1) = NONE; train(0, 7) = 1
                bill(0, 9999) = 1; train(0, 7) = 9999; bill(0, 10000) = throws.IllegalArgumentException
                bill(0, 0) = 9999; train(0, 7) = NONE
                """);
        b.test(15, "Returns the previous one, NONE if there was none.",
                "bill(3, 0) = NONE; bill(3, 5) = NONE; bill(3, 5) = 5; bill(3, 0) = 5; bill(3, 0) = NONE; 5 times undo() = 4-",
                "bill(29, 9999) = NONE; bill(28, 1) = NONE; bill(29, 1) = 9999; bill(28, 1) = 1");
    }

    private void billRefused() {
        b.test(15, "Throws `IllegalArgumentException` if t or v is out of range", Rows.RICH + """
                bill(-1, 5) = throws.IllegalArgumentException; bill(30, 5) = throws.IllegalArgumentException
                bill(-2147483648, 5) = throws.IllegalArgumentException
                bill(2147483647, 5) = throws.IllegalArgumentException
                bill(0, -1) = throws.IllegalArgumentException; bill(0, 10000) = throws.IllegalArgumentException
                bill(29, -2147483648) = throws.IllegalArgumentException
                bill(29, 2147483647) = throws.IllegalArgumentException
                bill(30, 0) = throws.IllegalArgumentException; bill(-1, -1) = throws.IllegalArgumentException
                """);
    }

    private void set() {
        b.test(16, "Changes a setting.", """
                // it alone
                set(2, 0) = 15; setting(0) = 4; setting(1) = 6; setting(2) = 0; setting(3) = 40
                """, "set(0, 4) = 4; setting(0) = 4; undo() = 0");
        b.test(16, "`what`: 0 to 3", """
                set(-1, 10) = throws.IllegalArgumentException; set(0, 10) = 4; set(3, 10) = 40
                set(4, 10) = throws.IllegalArgumentException
                """);
        b.test(16, "`v`: the new value, in its range", """
                set(0, 1); set(0, 20); set(0, 0) = throws.IllegalArgumentException; set(0, 21) = throws.IllegalArgumentException
                set(1, 1); set(1, 40); set(1, 0) = throws.IllegalArgumentException; set(1, 41) = throws.IllegalArgumentException
                set(2, 0); set(2, 60); set(2, -1) = throws.IllegalArgumentException; set(2, 61) = throws.IllegalArgumentException
                set(3, 2); set(3, 60); set(3, 1) = throws.IllegalArgumentException; set(3, 61) = throws.IllegalArgumentException
                setting(0) = 20; setting(1) = 40; setting(2) = 60; setting(3) = 60
                """);
        b.test(16, "Returns the previous one.",
                "set(0, 1) = 4; set(0, 20) = 1; set(0, 5) = 20; set(1, 40) = 6; set(1, 1) = 40; set(1, 5) = 1",
                "set(2, 0) = 15; set(2, 60) = 0; set(2, 5) = 60; set(3, 2) = 40; set(3, 60) = 2; set(3, 5) = 60");
        b.test(16, "Throws `IllegalArgumentException` if what or v is out of range", Rows.RICH + """
                set(-1, 5) = throws.IllegalArgumentException; set(4, 5) = throws.IllegalArgumentException
                set(-2147483648, 5) = throws.IllegalArgumentException
                set(2147483647, 5) = throws.IllegalArgumentException
                set(0, -2147483648) = throws.IllegalArgumentException
                set(1, 2147483647) = throws.IllegalArgumentException
                set(2, -1) = throws.IllegalArgumentException; set(3, 1) = throws.IllegalArgumentException
                set(4, -1) = throws.IllegalArgumentException
                """);
    }

    private void leave() {
        b.test(17, "The first train leaves: its axles are gone, and numbers of axles and trains become smaller", Rows.TWO_TRAINS + """
                leave() = 141; about(0) = 3; about(1) = 1; axle(0, 0) = 45; axle(0, 1) = 20; axle(0, 2) = 0
                axle(2, 1) = 99; train(0, 1) = 3; train(1, 0) = throws.IndexOutOfBoundsException
                axle(3, 0) = throws.IndexOutOfBoundsException; leave() = 42; about(0) = 0; about(1) = 0
                """, Rows.FULL_BY_TEXT + """
                // all axles at once
                leave() = 1500; about(0) = 0; roll(1, 1) = 0; axle(0, 0) = 1
                """, Rows.FULL_BY_TEXT + """
                // one by one
                set(3, 4); leave() = 0; about(0) = 29; about(1) = 29; 28 times leave() = 0
                about(0) = 1; leave() = 0; leave() = throws.IllegalStateException
                """);
        b.test(17, "Returns its weight.", """
                // without a car
                roll(4, 99); roll(60, 50); roll(4, 50); leave() = 0; leave() = 100
                """, "30 times roll(4, 99); leave() = 2970");
        b.test(17, "Throws `IllegalStateException` if there is none", "leave() = throws.IllegalStateException", """
                bill(0, 5); bill(1, 6); leave() = throws.IllegalStateException; bill(0, 0) = 5; bill(1, 0) = 6
                """, Rows.RICH + "leave() = 141; leave() = 42; leave() = throws.IllegalStateException");
    }

    private void leaveBills() {
        b.test(17, "its bill is gone", """
                roll(4, 50); bill(0, 5); leave() = 0; bill(0, 0) = NONE; bill(29, 0) = NONE
                """);
        b.test(17, "and all other bills get a number that is smaller by 1 (whether there are such trains or not).", """
                roll(4, 50); bill(0, 5); bill(1, 6); bill(2, 7); bill(28, 8); bill(29, 9); leave() = 0
                bill(0, 0) = 6; bill(1, 0) = 7; bill(2, 0) = NONE; bill(26, 0) = NONE; bill(27, 0) = 8
                bill(28, 0) = 9; bill(29, 0) = NONE
                """, Rows.FULL_BY_TEXT + """
                // the last of 30 trains
                set(3, 4); bill(29, 9); 29 times leave() = 0; train(0, 7) = 9; leave(); bill(0, 0) = NONE
                """);
    }

    private void undo() {
        b.test(18, "Takes back the last action that is remembered.",
                "roll(4, 50); roll(5, 51); undo() = 1; about(0) = 1; axle(0, 1) = 50; undo() = 0; about(0) = 0",
                // the text is not taken back, with it the record can be made again
                "type(R0450); record() = 1; undo() = 0; about(0) = 0; record() = 1");
        b.test(18, "Returns how many states are still remembered.",
                "roll(4, 50); undo() = 0", "14 times roll(4, 50)\n" + UNDO_TO_THE_END,
                "15 times roll(4, 50)\n" + UNDO_TO_THE_END + "roll(4, 50) = 1; roll(4, 50) = 2; undo() = 1; undo() = 0");
        b.test(18, "Throws `IllegalStateException` if none is remembered",
                "undo() = throws.IllegalStateException",
                "append(82); clearText(); save(0); restore(0); undo() = throws.IllegalStateException",
                "type(R0450); record() = 1; save(1); undo() = 0; undo() = throws.IllegalStateException; restore(1) = 1; undo() = throws.IllegalStateException");
    }
}
