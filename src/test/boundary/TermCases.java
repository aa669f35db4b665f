/** The boundaries of the terms that stand ahead of the promises: axles, trains, cars and bills. */
final class TermCases {
    private final Boundary b;

    TermCases(Boundary b) {
        this.b = b;
    }

    void all() {
        without();
        calls();
        axles();
        settings();
        settingsAtWork();
        trains();
        carsAndStrayAxles();
        costOfStrayAxles();
        costOfCars();
        costOfGaps();
        longestGaps();
        bestPlans();
        numbersOfCars();
        weights();
        speeds();
        bills();
    }

    private void without() {
        b.noBoundary(0, "A freight scale in the track:",
                "It tells which axles make a car, what a train weighs",
                "Changes can be undone.",
                "A plan costs, all together:",
                "the interface says: ---- text.",
                "the interface says: ---- what there is.",
                "the interface says: ---- actions.",
                "the interface says: ---- scripts, simulations.",
                "the interface says: ---- save slots.");
    }

    private void calls() {
        b.test(0, "An object is used for at most 512 calls after it has been made", """
                30 times roll(4, 50) = 0+
                weigh(29, 7) = 50; 479 times weigh(29, 7) = 7
                // the 511th and the 512th call
                undo() = 13; undo() = 12
                """, """
                120 times append(82) = 1+; clearText() = 120
                120 times append(48) = 1+; clearText() = 120
                120 times append(40) = 1+; clearText() = 120
                120 times append(41) = 1+; clearText() = 120
                27 times roll(60, 99) = 0+
                // the 512th call
                about(3) = 27
                """);
    }

    private void axles() {
        b.test(0, "The scale records a row of at most 30 axles", Rows.FULL + """
                about(0) = 30; roll(4, 50) = throws.IllegalStateException; about(0) = 30
                """, Rows.FULL_BY_TEXT + """
                about(0) = 30; roll(4, 50) = throws.IllegalStateException; about(0) = 30
                """, "about(0) = 0");
        b.test(0, "numbered from 0", Rows.FULL + """
                axle(0, 1) = 50; axle(29, 1) = 50
                axle(-1, 1) = throws.IndexOutOfBoundsException
                axle(30, 1) = throws.IndexOutOfBoundsException
                """);
        b.test(0, "each with a pause (1 to 60 ticks since the one before", """
                roll(5, 50); roll(0, 50) = throws.IllegalArgumentException
                roll(1, 50) = 1; axle(1, 0) = 1; roll(60, 50) = 2; axle(2, 0) = 60
                roll(61, 50) = throws.IllegalArgumentException; about(0) = 3
                """);
        b.test(0, "the first one has one, too, which means nothing)", """
                // at the end and not: the same train; far from the base and not: the same car
                roll(60, 50) = 0; axle(0, 0) = 60; about(1) = 1
                roll(4, 50); about(1) = 1; about(2) = 1; about(5) = 0
                """, """
                roll(1, 50) = 0; axle(0, 0) = 1; about(1) = 1; roll(4, 50); about(1) = 1; about(5) = 0
                """, """
                // fewer ticks than the gap ahead of the first car cost nothing
                set(1, 40); roll(1, 50); roll(4, 50); about(5) = 0
                """, """
                // the axle 1 becomes the first one
                roll(1, 50); roll(4, 50); roll(45, 50); roll(4, 50); about(1) = 2
                leave(); axle(0, 0) = 45; about(1) = 1; about(5) = 0
                """);
        b.test(0, "and a weight from 1 to 99.", """
                roll(4, 0) = throws.IllegalArgumentException; roll(4, 1) = 0; axle(0, 1) = 1
                roll(4, 99) = 1; axle(1, 1) = 99; roll(4, 100) = throws.IllegalArgumentException
                about(0) = 2
                """);
    }

    private void settings() {
        b.test(0, "0: the base, 1 to 20 ticks, at first 4", """
                setting(0) = 4; set(0, 0) = throws.IllegalArgumentException; set(0, 1) = 4
                set(0, 20) = 1; set(0, 21) = throws.IllegalArgumentException; setting(0) = 20
                """);
        b.test(0, "1: the gap, 1 to 40 ticks, at first 6", """
                setting(1) = 6; set(1, 0) = throws.IllegalArgumentException; set(1, 1) = 6
                set(1, 40) = 1; set(1, 41) = throws.IllegalArgumentException; setting(1) = 40
                """);
        b.test(0, "2: the price of a stray axle, 0 to 60, at first 15", """
                setting(2) = 15; set(2, -1) = throws.IllegalArgumentException; set(2, 0) = 15
                set(2, 60) = 0; set(2, 61) = throws.IllegalArgumentException; setting(2) = 60
                """);
        b.test(0, "3: the end, 2 to 60 ticks, at first 40.", """
                setting(3) = 40; set(3, 1) = throws.IllegalArgumentException; set(3, 2) = 40
                set(3, 60) = 2; set(3, 61) = throws.IllegalArgumentException; setting(3) = 60
                """);
    }

    private void settingsAtWork() {
        b.test(0, "There are settings: 0: the base", """
                // 3 * 19 for a car with the least base, nothing with the greatest one
                set(2, 60); roll(60, 50); roll(20, 50); set(0, 20) = 4; about(5) = 0
                set(0, 1) = 20; about(5) = 57
                """, """
                // no tick is missing with the least gap; with the greatest one 39 are
                set(2, 60); roll(60, 50); roll(4, 50); roll(1, 50); roll(4, 50)
                set(1, 1) = 6; about(5) = 0; set(1, 40) = 1; about(5) = 78; about(2) = 2
                """, """
                // the price 0 makes stray axles of a car for 1; the price 60 makes a car for 98
                roll(60, 1); roll(4, 2); set(2, 0); about(5) = 0; about(2) = 0
                weigh(1, 99); set(2, 60); about(5) = 98; about(2) = 1
                """, """
                // with the end 2 only a pause of 1 begins no train; with the end 60 only one of 60 does
                roll(1, 50); roll(1, 50); roll(2, 50); roll(59, 50); roll(60, 50)
                set(3, 2); about(1) = 4; set(3, 60); about(1) = 2
                """);
    }

    private void trains() {
        b.test(0, "A train begins with the axle 0", """
                about(1) = 0; roll(1, 50); about(1) = 1; axle(0, 2) = 0; train(0, 0) = 0
                """, """
                roll(60, 50); about(1) = 1; train(0, 0) = 0
                """);
        b.test(0, "and with each one whose pause is at least the end", """
                roll(1, 50); roll(39, 50); about(1) = 1
                roll(40, 50); about(1) = 2; axle(2, 2) = 1; train(1, 0) = 2
                roll(41, 50); about(1) = 3; axle(3, 2) = 2; train(2, 0) = 3
                set(3, 41); about(1) = 2; set(3, 42); about(1) = 1; set(3, 39); about(1) = 4
                """);
        b.test(0, "it has all axles up to the next one that begins a train.", """
                roll(1, 50); roll(39, 50); roll(40, 50); roll(60, 50); roll(1, 50); roll(2, 50)
                train(0, 1) = 2; train(1, 1) = 1; train(2, 1) = 3
                axle(1, 2) = 0; axle(2, 2) = 1; axle(3, 2) = 2; axle(5, 2) = 2
                """, Rows.FULL + """
                about(1) = 1; train(0, 1) = 30; axle(29, 2) = 0
                // 30 trains of one axle
                set(3, 4); about(1) = 30; train(0, 1) = 1; train(29, 1) = 1; axle(29, 2) = 29
                """);
        b.test(0, "Trains are numbered from 0.", """
                train(0, 0) = throws.IndexOutOfBoundsException
                """, Rows.TWO_TRAINS + """
                train(-1, 0) = throws.IndexOutOfBoundsException; train(0, 0) = 0; train(1, 0) = 4
                train(2, 0) = throws.IndexOutOfBoundsException
                """);
    }

    private void carsAndStrayAxles() {
        b.test(0, "each car is made of two axles that are one behind the other", """
                // as a car they would cost 60, but another train begins: 120
                set(0, 20); set(2, 60); roll(1, 50); roll(40, 50); about(2) = 0; about(5) = 120
                set(3, 41); about(2) = 1; about(5) = 60
                """, """
                // 0 and 2 are alike, but 1 is between them: 45 for three stray axles
                roll(1, 50); roll(2, 1); roll(2, 50); about(2) = 0; about(5) = 45
                """, """
                // one axle alone makes no car, not even for the greatest price
                set(2, 60); roll(1, 50); about(2) = 0; about(5) = 60
                """);
        b.test(0, "an axle that is in no car is stray.", """
                about(3) = 0; roll(1, 50); about(3) = 1; axle(0, 3) = NONE
                roll(4, 50); about(3) = 0; axle(0, 3) = 0; axle(1, 3) = 0
                roll(4, 50); about(3) = 1; axle(2, 3) = NONE
                """, Rows.FULL + "about(3) = 0; set(3, 2); about(3) = 30; axle(29, 3) = NONE");
    }

    private void costOfStrayAxles() {
        b.test(0, "for each stray axle the price;", """
                about(5) = 0; roll(1, 50); about(5) = 15; set(2, 0); about(5) = 0; set(2, 60); about(5) = 60
                """, Rows.FULL + """
                // the most that all plans together can cost
                set(3, 2); set(2, 60); about(5) = 1800; train(29, 4) = 60
                """);
    }

    private void costOfCars() {
        b.test(0, "three times the difference of its pause (that of its second axle) and the base", """
                roll(60, 50); roll(3, 50); about(5) = 3
                """, """
                roll(60, 50); roll(4, 50); about(5) = 0
                """, """
                roll(60, 50); roll(5, 50); about(5) = 3
                """, """
                // the longest pause that begins no train: 3 * 40 is as much as two stray axles
                set(3, 60); set(2, 60); set(0, 19); roll(1, 50); roll(59, 50); about(2) = 1; about(5) = 120
                set(0, 18); about(2) = 0; about(5) = 120; set(0, 20); about(2) = 1; about(5) = 117
                """, """
                // the shortest pause and the greatest base
                set(2, 60); set(0, 20); roll(60, 50); roll(1, 50); about(5) = 57
                """);
        b.test(0, "and the difference of its two weights;", """
                roll(1, 50); roll(4, 50); about(5) = 0
                """, """
                roll(1, 49); roll(4, 50); about(5) = 1; weigh(0, 51); about(5) = 1
                """, """
                set(2, 60); roll(1, 1); roll(4, 99); about(5) = 98
                """, """
                set(2, 60); roll(1, 99); roll(4, 1); about(5) = 98
                """);
    }

    private void costOfGaps() {
        b.test(0, "for each car that is not the first one of its train", """
                roll(1, 50); roll(4, 50); about(5) = 0
                // the second one: a tick is missing
                roll(5, 50); roll(4, 50); about(2) = 2; about(5) = 2
                // the first one of the next train: none is
                set(3, 5); about(1) = 2; about(2) = 2; about(5) = 0
                """);
        b.test(0, "are fewer than the gap.", """
                roll(1, 50); roll(4, 50); roll(5, 50); roll(4, 50); about(5) = 2
                set(1, 5); about(5) = 0; set(1, 4); about(5) = 0; set(1, 7); about(5) = 4
                """, """
                roll(1, 50); roll(4, 50); roll(6, 50); roll(4, 50); about(5) = 0
                """, """
                roll(1, 50); roll(4, 50); roll(7, 50); roll(4, 50); about(5) = 0
                """);
        b.test(0, "(the pauses of all axles behind the one, up to the other one)", """
                // the cars 0-1 and 3-4, the stray axle 2: 3 + 2 ticks, one is missing
                roll(1, 50); roll(4, 50); roll(3, 99); roll(2, 50); roll(4, 50)
                about(2) = 2; axle(2, 3) = NONE; car(1, 5) = 5; about(5) = 17
                // 3 + 3 ticks: none is missing
                set(1, 5); about(5) = 15
                """, """
                // neither the pause of the second axle of the first car nor that of the other one counts
                set(0, 20); roll(1, 50); roll(20, 50); roll(3, 50); roll(20, 50)
                about(2) = 2; car(1, 5) = 3; about(5) = 6
                """);
    }

    private void longestGaps() {
        b.test(0, "twice as much as the ticks between the second axle of the car before it and its first one", """
                // 39 ticks are missing: twice 39 is less than two stray axles for 120
                set(1, 40); set(2, 60); roll(1, 50); roll(4, 50); roll(1, 50); roll(4, 50)
                about(2) = 2; about(5) = 78
                // and just as much: both cars
                set(2, 39); about(2) = 2; about(5) = 78
                // and more
                set(2, 38); about(2) = 1; about(5) = 76
                """, Rows.FULL + """
                // each of 14 cars: 36 ticks are missing
                set(1, 40); set(2, 60); about(2) = 15; about(5) = 1008
                """);
    }

    private void bestPlans() {
        b.test(0, "The plan of a train is the one that costs least", """
                // 31 as a car, 30 as two stray axles
                roll(1, 10); roll(4, 41); about(2) = 0; about(5) = 30
                """, """
                // 29 as a car
                roll(1, 10); roll(4, 39); about(2) = 1; about(5) = 29
                """, """
                // 0-1 and 2-3 are too near: 15 + 4; 0-1 and 3-4: 15
                roll(1, 50); 4 times roll(4, 50); car(0, 0) = 0; car(1, 0) = 3; about(5) = 15
                """);
        b.test(0, "of several the one with the most cars", """
                // 30 as a car, 30 as two stray axles
                roll(1, 10); roll(4, 40); about(2) = 1; about(5) = 30
                """, """
                // the price 0 and a car for 0
                set(2, 0); roll(1, 50); roll(4, 50); about(2) = 1; about(5) = 0
                """, """
                // a second car for 30, or two stray axles
                roll(1, 50); roll(4, 50); roll(6, 10); roll(4, 40); about(2) = 2; about(5) = 30
                """, Rows.FULL + """
                // 15 cars for nothing, with nothing to pay for stray axles
                set(2, 0); set(1, 1); about(2) = 15; about(5) = 0
                """);
        b.test(0, "of several the one whose first car begins first", """
                roll(1, 50); roll(4, 50); roll(4, 50); about(5) = 15; car(0, 0) = 0; axle(2, 3) = NONE
                """, """
                // far too near for two cars: 0-1, 1-2 and 2-3 cost the same
                set(1, 40); roll(1, 50); 3 times roll(4, 50); about(2) = 1; about(5) = 30; car(0, 0) = 0
                """, """
                // in the second train, too
                roll(1, 50); roll(40, 50); roll(4, 50); roll(4, 50); about(5) = 30; car(0, 0) = 1
                """);
        b.test(0, "then the second one, and so on.", """
                // 0-1 and 2-3, 0-1 and 3-4, 1-2 and 3-4 cost the same
                set(1, 4); roll(1, 50); 4 times roll(4, 50)
                about(5) = 15; car(0, 0) = 0; car(1, 0) = 2; axle(4, 3) = NONE
                """, """
                set(1, 4); roll(1, 50); 6 times roll(4, 50)
                about(5) = 15; car(0, 0) = 0; car(1, 0) = 2; car(2, 0) = 4; axle(6, 3) = NONE
                """, """
                // 15 places for the stray axle of 29: the last one
                set(1, 4); roll(1, 50); 28 times roll(4, 50)
                about(5) = 15; about(2) = 14; car(13, 0) = 26; axle(28, 3) = NONE
                """);
    }

    private void numbersOfCars() {
        b.test(0, "The cars of all trains, by their plans, are numbered from 0, in the order of their axles.",
                Rows.TWO_TRAINS + """
                car(-1, 0) = throws.IndexOutOfBoundsException; car(0, 0) = 0; car(1, 0) = 2; car(2, 0) = 4
                car(3, 0) = throws.IndexOutOfBoundsException
                """, """
                // the first train has no car
                roll(1, 50); roll(40, 50); roll(4, 50); car(0, 0) = 1; car(0, 4) = 1; axle(1, 3) = 0
                """, """
                car(0, 0) = throws.IndexOutOfBoundsException; roll(1, 50)
                car(0, 0) = throws.IndexOutOfBoundsException
                """, Rows.FULL + """
                car(14, 0) = 28; axle(29, 3) = 14; car(15, 0) = throws.IndexOutOfBoundsException
                """);
    }

    private void weights() {
        b.test(0, "The weight of a car is that of its two axles together", """
                roll(1, 1); roll(4, 1); car(0, 1) = 2
                """, """
                roll(1, 99); roll(4, 99); car(0, 1) = 198
                """, """
                // of the two next to it, which are stray, nothing
                roll(1, 99); roll(4, 50); roll(4, 50); roll(4, 1); car(0, 0) = 1; car(0, 1) = 100
                """);
        b.test(0, "the weight of a train is that of its cars.", """
                // stray axles weigh nothing
                roll(1, 99); train(0, 3) = 0; roll(4, 1); train(0, 3) = 0
                weigh(1, 99); train(0, 3) = 198; roll(4, 1); train(0, 3) = 198
                """, """
                30 times roll(4, 99) = 0+; train(0, 3) = 2970
                """);
    }

    private void speeds() {
        b.test(0, "The speed of a car is 600 / its pause, rounded down.", """
                // the shortest pause
                roll(1, 50); roll(1, 50); car(0, 3) = 600
                """, """
                // 85.7
                roll(1, 50); roll(7, 50); car(0, 3) = 85
                """, """
                // 54.5, and just 50
                roll(1, 50); roll(11, 50); car(0, 3) = 54; undo(); roll(12, 50); car(0, 3) = 50
                """, """
                // the longest pause that a car can have: 10.1
                set(3, 60); set(2, 60); set(0, 20); roll(60, 50); roll(59, 50); car(0, 3) = 10
                """);
    }

    private void bills() {
        b.test(0, "there is at most one for each number of a train, 0 to 29.", """
                roll(1, 50); bill(0, 5) = NONE; bill(0, 6) = 5; train(0, 7) = 6; about(6) = 1
                bill(29, 7) = NONE; bill(29, 8) = 7
                bill(30, 5) = throws.IllegalArgumentException
                bill(-1, 5) = throws.IllegalArgumentException
                """, Rows.FULL_BY_TEXT + """
                // one for each of 30 trains
                set(3, 2); bill(0, 1) = NONE; bill(0, 2) = 1; bill(0, 2) = 2
                bill(1, 3) = NONE; bill(28, 4) = NONE; bill(29, 5) = NONE; about(6) = 4
                train(0, 7) = 2; train(1, 7) = 3; train(28, 7) = 4; train(29, 7) = 5; train(2, 7) = NONE
                """);
        b.test(0, "Bills stay when trains become others.", """
                roll(1, 50); roll(4, 50); roll(45, 50); roll(4, 50); bill(1, 100); about(6) = 1; about(7) = 0
                // no train 1 any more
                set(3, 60); about(6) = 0; train(0, 7) = NONE
                // there it is again
                set(3, 45); about(6) = 1; train(1, 7) = 100; about(7) = 0
                """, """
                // the last train is struck out, and another one comes
                roll(1, 50); bill(1, 7); roll(60, 50); strike(1); about(6) = 0; roll(40, 9); train(1, 7) = 7
                """);
    }
}
