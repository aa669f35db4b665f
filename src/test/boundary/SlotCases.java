/** The boundaries of the save slots: the promises 27 and 28. */
final class SlotCases {
    private final Boundary b;

    SlotCases(Boundary b) {
        this.b = b;
    }

    void all() {
        save();
        saveRefused();
        restore();
        restoreForgets();
        restoreRefused();
    }

    private void save() {
        b.test(27, "Stores the present state in a save slot.", """
                // over the old one
                roll(4, 50); save(0) = 1; roll(4, 51); save(0) = 2; leave(); restore(0) = 2; axle(1, 1) = 51
                """, """
                // not what is remembered, and no action
                roll(4, 50); roll(4, 51); save(0) = 2; undo() = 1; about(0) = 1; restore(0) = 2; undo() = throws.IllegalStateException
                """, """
                // settings and bills, too, also of trains that are not there
                set(2, 0); bill(29, 9999); save(1) = 0; set(2, 60); bill(29, 0); restore(1) = 0
                setting(2) = 0; bill(29, 0) = 9999
                """, """
                // a copy: what is changed behind it is not changed in it
                roll(4, 50); save(0); weigh(0, 99); set(0, 20); bill(0, 5); restore(0) = 1; axle(0, 1) = 50
                setting(0) = 4; bill(0, 0) = NONE
                """, Rows.FULL_BY_TEXT + "weigh(29, 99); save(1) = 30; leave(); restore(1) = 30; axle(29, 1) = 99; about(2) = 14");
        b.test(27, "`slot`: 0 or 1", """
                save(-1) = throws.IndexOutOfBoundsException; save(0) = 0; roll(4, 50); save(1) = 1
                save(2) = throws.IndexOutOfBoundsException; restore(0) = 0; restore(1) = 1
                """);
        b.test(27, "Returns the number of axles.", "save(0) = 0; save(1) = 0", Rows.FULL_BY_TEXT + "save(0) = 30",
                Rows.TWO_TRAINS + "save(1) = 7; strike(0); save(1) = 6");
    }

    private void saveRefused() {
        b.test(27, "Throws `IndexOutOfBoundsException` if there is no such save slot",
                "save(2) = throws.IndexOutOfBoundsException; restore(0) = throws.IllegalStateException", Rows.RICH + """
                save(-1) = throws.IndexOutOfBoundsException; save(2) = throws.IndexOutOfBoundsException
                save(-2147483648) = throws.IndexOutOfBoundsException
                save(2147483647) = throws.IndexOutOfBoundsException
                """);
    }

    private void restore() {
        b.test(28, "Replaces the state by the one in a save slot", """
                // by none with fewer axles, and by one with more
                save(0) = 0; 30 times roll(4, 50); save(1) = 30; restore(0) = 0; about(0) = 0; about(5) = 0
                axle(0, 0) = throws.IndexOutOfBoundsException; restore(1) = 30; about(0) = 30; about(2) = 15
                """, """
                // not the text
                type(R04); save(0); type(50); restore(0) = 0; errorPosition() = NONE; clearText() = 5
                """);
        b.test(28, "The save slot keeps it.", """
                roll(4, 50); save(0) = 1; restore(0) = 1; roll(4, 51); weigh(0, 99); restore(0) = 1; axle(0, 1) = 50
                set(2, 0); bill(0, 7); restore(0) = 1; setting(2) = 15; train(0, 7) = NONE
                """, """
                // also behind more than 14 actions, and behind what the other slot does
                roll(4, 50); save(0) = 1; 20 times roll(4, 51); save(1) = 21; restore(1) = 21; restore(0) = 1
                axle(0, 1) = 50; restore(1) = 21
                """);
        b.test(28, "`slot`: 0 or 1", """
                save(0); roll(4, 50); save(1); restore(-1) = throws.IndexOutOfBoundsException; restore(0) = 0
                restore(1) = 1; restore(2) = throws.IndexOutOfBoundsException
                """);
        b.test(28, "Returns the number of axles then.", "save(1); restore(1) = 0", Rows.FULL_BY_TEXT + "save(0); leave(); restore(0) = 30");
    }

    private void restoreForgets() {
        b.test(28, "and forgets all remembered states.", """
                roll(4, 50); save(0); restore(0) = 1; undo() = throws.IllegalStateException; about(0) = 1
                """, """
                // 14 of them, and then as many as there are behind it
                20 times roll(4, 50); save(0); restore(0) = 20; undo() = throws.IllegalStateException
                roll(4, 51); undo() = 0; undo() = throws.IllegalStateException; about(0) = 20
                """, """
                save(1); restore(1); 15 times roll(4, 50); 14 times undo() = 13-; undo() = throws.IllegalStateException
                about(0) = 1
                """);
    }

    private void restoreRefused() {
        b.test(28, "Throws `IndexOutOfBoundsException` if there is no such save slot",
                // although nothing has been saved, too
                "restore(-1) = throws.IndexOutOfBoundsException; restore(2) = throws.IndexOutOfBoundsException", Rows.RICH + """
                restore(-1) = throws.IndexOutOfBoundsException; restore(2) = throws.IndexOutOfBoundsException
                restore(-2147483648) = throws.IndexOutOfBoundsException
                restore(2147483647) = throws.IndexOutOfBoundsException
                """);
        b.test(28, "Throws `IllegalStateException` if nothing has been saved in it",
                "restore(0) = throws.IllegalStateException; restore(1) = throws.IllegalStateException",
                // only the other one
                "save(0); restore(1) = throws.IllegalStateException; restore(0) = 0",
                "save(1); restore(0) = throws.IllegalStateException; restore(1) = 0",
                Rows.RICH + "restore(0) = throws.IllegalStateException; restore(1) = 5; restore(0) = throws.IllegalStateException");
    }
}
