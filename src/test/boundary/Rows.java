/** Calls that many runs begin with. */
final class Rows {
    /**
     * Axles 0 to 6, in two trains. Train 0: the cars 0-1, for 1, and 2-3, for 3, with 9 ticks between
     * them. Train 1: the car 4-5, for 6 + 2, and the stray axle 6, for 15. The cars weigh 81, 60, 42.
     */
    static final String TWO_TRAINS = """
            roll(60, 40); roll(4, 41); roll(9, 30); roll(5, 30)
            roll(45, 20); roll(6, 22); roll(7, 99)
            """;

    /** 30 axles, one train: 15 cars of 100, each but the first one 4 ticks behind, for 2 * 2 each. */
    static final String FULL = "30 times roll(4, 50) = 0+\n";

    /** The same with a text, for it takes fewer calls and one action alone. */
    static final String FULL_BY_TEXT = "type(R5(6(0450))); record() = 30; clearText() = 11\n";

    /** TWO_TRAINS with other settings, bills, a text, the slot 1 saved, and 14 states remembered. */
    static final String RICH = """
            type(R2(0445)0650)
            record() = 3; bill(3, 77); save(1) = 3
            roll(50, 20); roll(3, 21); save(1) = 5; undo(); undo()
            leave() = 90; roll(60, 40); roll(4, 41); roll(9, 30); roll(5, 30); roll(45, 20); roll(6, 22)
            roll(7, 99); bill(0, 141); bill(29, 9999); set(1, 7); set(2, 14); set(0, 5)
            """;

    /** The numbers of a scale that has recorded nothing. */
    static final String EMPTY = """
            about(0) = 0; about(1) = 0; about(2) = 0; about(3) = 0
            about(4) = 0; about(5) = 0; about(6) = 0; about(7) = 0
            setting(0) = 4; setting(1) = 6; setting(2) = 15; setting(3) = 40
            """;

    private Rows() {
    }
}
