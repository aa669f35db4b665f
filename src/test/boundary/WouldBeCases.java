/** The boundaries of what would be: the promises 19 to 24. */
final class WouldBeCases {
    private final Boundary b;

    WouldBeCases(Boundary b) {
        this.b = b;
    }

    void all() {
        changeNothing();
        without();
        suspect();
        suspectAsTheyAreThen();
        bestBase();
        sureness();
        plans();
        heavy();
    }

    private void changeNothing() {
        b.test(0, "these and all following methods up to the save slots change nothing.", Rows.RICH + """
                without(0) = 102; without(6) = 183; suspect() = 6; bestBase() = 5; sureness(0) = 24
                sureness(6) = 0; plans(0) = 5; plans(1) = 3; heavy(0) = 63
                runScript(3, 205004200050000) = NONE; runScript(2, 5000050001) = 1; simulate(5, 60) = 3171
                undo() = 13
                """, Rows.FULL_BY_TEXT + """
                without(29) = 1400; suspect() = NONE; bestBase() = 4; sureness(29) = 22; plans(0) = 999999
                heavy(0) = 1073741823; runScript(1, 50000) = NONE; simulate(0, 1) = 0; undo() = 0
                """, "suspect() = NONE; bestBase() = 1; heavy(0) = 0; runScript(1, 10101) = NONE; simulate(0, 1) = 0");
    }

    private void without() {
        b.noBoundary(19, "`i`: axle");
        b.test(19, "Tells what all cars would weigh without an axle.", "roll(4, 50); without(0) = 0",
                "roll(4, 50); roll(4, 51); without(0) = 0; without(1) = 0; about(4) = 101",
                Rows.TWO_TRAINS + "without(0) = 102; without(6) = 183; strike(6) = 6; about(4) = 183");
        b.test(19, "Returns the weight of all cars behind strike(i).", """
                // the sum of two pauses begins a train: two stray axles, not one car
                set(0, 20); set(2, 60); roll(1, 50); roll(20, 50); roll(20, 50); without(1) = 0; without(0) = 100
                set(3, 41); without(1) = 100; strike(1); about(4) = 100
                """, """
                // the sum is 60 at most: with the end 60 a train begins
                set(3, 60); set(0, 20); set(2, 60); roll(1, 50); roll(59, 50); roll(59, 50); without(1) = 0
                strike(1); about(1) = 2; about(4) = 0
                """, Rows.FULL_BY_TEXT + "without(0) = 1400; without(29) = 1400; strike(29); about(4) = 1400");
        b.test(19, "Throws `IndexOutOfBoundsException` if there is no such axle",
                "without(0) = throws.IndexOutOfBoundsException", Rows.RICH + """
                without(-1) = throws.IndexOutOfBoundsException; without(7) = throws.IndexOutOfBoundsException
                without(-2147483648) = throws.IndexOutOfBoundsException
                without(2147483647) = throws.IndexOutOfBoundsException
                """, Rows.FULL_BY_TEXT + "without(30) = throws.IndexOutOfBoundsException; strike(0); without(29) = throws.IndexOutOfBoundsException");
    }

    private void suspect() {
        b.test(20, "Finds the axle that is most likely wrong.", "roll(1, 50); roll(4, 50); roll(4, 99); suspect() = 2",
                // the last one of 29: all others make 14 cars for nothing
                "set(1, 4); 28 times roll(4, 50); roll(4, 99); suspect() = 28");
        b.test(20, "if that is less than now", """
                // one axle: nothing instead of 15, of 1, of nothing
                roll(4, 50); suspect() = 0; set(2, 1); suspect() = 0; set(2, 0); suspect() = NONE
                """, """
                // a car for 15, or one stray axle for 15; the car costs one more
                roll(1, 50); roll(4, 65); suspect() = NONE; weigh(1, 66); suspect() = 0
                """, "set(2, 0); roll(1, 1); roll(4, 99); about(5) = 0; suspect() = NONE");
        b.test(20, "of several the lowest one", "3 times roll(4, 50); suspect() = 0",
                "3 times roll(40, 50); suspect() = 0", """
                // 4 or 5, each one alone in its train
                roll(1, 50); roll(4, 50); roll(4, 99); roll(4, 99); roll(50, 1); roll(50, 99); suspect() = 4
                """, "30 times roll(40, 50); suspect() = 0");
        b.test(20, "NONE if there is none.", "suspect() = NONE", "roll(1, 50); roll(4, 50); suspect() = NONE",
                Rows.FULL_BY_TEXT + "suspect() = NONE");
    }

    private void suspectAsTheyAreThen() {
        b.test(20, "(as they are then)", """
                // without 1 the sum 40 begins a train, which makes two stray axles for 120: rather 0 or 2,
                // for a car of 98; with the end 41 it makes a car for 60
                set(0, 20); set(2, 60); roll(1, 1); roll(20, 99); roll(20, 1); about(5) = 158; suspect() = 0
                set(3, 41); suspect() = 1
                """);
    }

    private void bestBase() {
        b.test(21, "Finds the best base.",
                // the least one and the greatest one
                "roll(4, 50); roll(1, 50); bestBase() = 1", "roll(4, 50); roll(2, 50); bestBase() = 2",
                "roll(4, 50); roll(19, 50); bestBase() = 19", "roll(4, 50); roll(20, 50); bestBase() = 20",
                // the best one would be greater
                "roll(4, 50); roll(21, 50); bestBase() = 20; setting(0) = 4",
                "set(0, 20); roll(4, 50); roll(1, 50); bestBase() = 1; setting(0) = 20",
                // for all trains together: two cars of 3 ticks in one, one of 9 in the other
                "roll(4, 50); roll(3, 50); roll(9, 50); roll(3, 50); roll(40, 50); roll(9, 50); bestBase() = 3");
        b.test(21, "Returns the base with which the plans of all trains cost least together, of several the lowest one.",
                "bestBase() = 1", "roll(4, 50); bestBase() = 1",
                // 5 and 7 in two trains: 5, 6 and 7 cost 6
                "roll(4, 50); roll(5, 50); roll(40, 50); roll(7, 50); bestBase() = 5",
                // a car for more than two stray axles with each base; for as much with 20; for less with 20
                "roll(4, 50); roll(31, 50); bestBase() = 1", "roll(4, 50); roll(30, 50); bestBase() = 1",
                "roll(4, 50); roll(29, 50); bestBase() = 20",
                // with nothing to pay for stray axles
                "set(2, 0); roll(4, 50); roll(4, 99); bestBase() = 1",
                Rows.FULL_BY_TEXT + "bestBase() = 4");
    }

    private void sureness() {
        b.noBoundary(22, "`i`: axle");
        b.test(22, "Tells how much more a plan would cost in which an axle is stray.",
                "roll(4, 50); sureness(0) = 0",
                "roll(4, 50); roll(4, 50); sureness(0) = 30; sureness(1) = 30",
                // as much, then one less; with the greatest price
                "roll(4, 50); roll(4, 80); sureness(0) = 0; weigh(1, 79); sureness(1) = 1; set(2, 60); sureness(0) = 91",
                "set(2, 0); roll(4, 50); roll(4, 50); sureness(0) = 0; sureness(1) = 0");
        b.test(22, "Returns by how much more the cheapest plan of its train costs in which it is stray than its plan.",
                // it is stray: nothing; as cheap with another one stray: nothing
                Rows.TWO_TRAINS + "sureness(6) = 0; sureness(0) = 29; sureness(4) = 22; sureness(5) = 22",
                "3 times roll(4, 50); sureness(0) = 0; sureness(1) = 30; sureness(2) = 0",
                // a whole full train
                Rows.FULL_BY_TEXT + "sureness(0) = 22; sureness(1) = 26; sureness(2) = 18; sureness(28) = 26; sureness(29) = 22",
                // another train does not matter
                "roll(4, 50); roll(4, 50); roll(40, 99); sureness(0) = 30; sureness(2) = 0");
        b.test(22, "Throws `IndexOutOfBoundsException` if there is no such axle",
                "sureness(0) = throws.IndexOutOfBoundsException", Rows.RICH + """
                sureness(-1) = throws.IndexOutOfBoundsException; sureness(7) = throws.IndexOutOfBoundsException
                sureness(-2147483648) = throws.IndexOutOfBoundsException
                sureness(2147483647) = throws.IndexOutOfBoundsException
                """, Rows.FULL_BY_TEXT + "sureness(30) = throws.IndexOutOfBoundsException");
    }

    private void plans() {
        b.noBoundary(23, "Counts plans.", "`t`: train");
        b.test(23, "Returns how many plans there are for it (that cost whatever)", """
                // no car; one; one or two of three
                roll(4, 50); plans(0) = 1; roll(59, 1); plans(0) = 1; plans(1) = 1
                set(3, 60); plans(0) = 2; roll(4, 99); plans(0) = 3; roll(4, 1); plans(0) = 5
                """, Rows.FULL_BY_TEXT + "set(3, 4); plans(0) = 1; plans(29) = 1");
        b.test(23, "at most 999999.", """
                28 times roll(4, 50); plans(0) = 514229; roll(4, 50); plans(0) = 832040
                // 1346269
                roll(4, 50); plans(0) = 999999; strike(0); plans(0) = 832040
                """);
        b.test(23, "Throws `IndexOutOfBoundsException` if there is no such train",
                "plans(0) = throws.IndexOutOfBoundsException", Rows.RICH + """
                plans(-1) = throws.IndexOutOfBoundsException; plans(2) = throws.IndexOutOfBoundsException
                plans(29) = throws.IndexOutOfBoundsException
                plans(-2147483648) = throws.IndexOutOfBoundsException
                plans(2147483647) = throws.IndexOutOfBoundsException
                """, Rows.FULL_BY_TEXT + "plans(1) = throws.IndexOutOfBoundsException; set(3, 4); plans(30) = throws.IndexOutOfBoundsException");
    }

    private void heavy() {
        b.noBoundary(24, "Tells which axles are in cars of one weight.");
        b.test(24, "`v`: weight of a car", """
                heavy(0) = 0; roll(4, 1); heavy(0) = 0; roll(4, 1); heavy(0) = 3; heavy(2) = 3; heavy(3) = 0
                """, "roll(4, 99); roll(4, 99); heavy(198) = 3; heavy(199) = 0; heavy(2147483647) = 0");
        b.test(24, "Returns the axles of all cars that weigh at least v, bit i set for the axle i.",
                Rows.TWO_TRAINS + """
                heavy(0) = 63; heavy(41) = 63; heavy(42) = 63; heavy(43) = 15; heavy(60) = 15; heavy(61) = 3
                heavy(80) = 3; heavy(81) = 3; heavy(82) = 0
                """,
                // the bits 28 and 29, and all of them
                Rows.FULL_BY_TEXT + "weigh(29, 51); heavy(101) = 805306368; heavy(100) = 1073741823; heavy(102) = 0");
        b.test(24, "Throws `IllegalArgumentException` if v is negative",
                "heavy(-1) = throws.IllegalArgumentException; heavy(0) = 0", Rows.RICH + """
                heavy(-1) = throws.IllegalArgumentException; heavy(-2147483648) = throws.IllegalArgumentException
                """);
    }
}
