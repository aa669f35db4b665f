/** The boundaries of scripts and simulations: the promises 25 and 26. */
final class ScriptCases {
    private final Boundary b;

    ScriptCases(Boundary b) {
        this.b = b;
    }

    void all() {
        copyOfTheState();
        commands();
        rolls();
        strikes();
        weighs();
        sets();
        leaves();
        carsAndStrayAxles();
        weights();
        axlesInCars();
        failing();
        answers();
        scriptsRefused();
        simulate();
        firstNumbers();
        pauses();
        fullScales();
        simulated();
        simulateRefused();
    }

    /** On TWO_TRAINS: scripts of one command, which succeed or fail. */
    private static String alone(String due, int... groups) {
        StringBuilder run = new StringBuilder(Rows.TWO_TRAINS);
        for (int group : groups) {
            run.append("runScript(1, ").append(group).append(") = ").append(due).append('\n');
        }
        return run.toString();
    }

    private static String succeed(int... groups) {
        return alone("NONE", groups);
    }

    private static String fail(int... groups) {
        return alone("0", groups);
    }

    private void copyOfTheState() {
        b.test(25, "Runs a script on a copy of the state.", Rows.TWO_TRAINS + """
                runScript(3, 500005000010499) = NONE; about(0) = 7; runScript(3, 500005000050000) = 2; about(0) = 7
                runScript(2, 4303050000) = NONE; setting(3) = 40; runScript(1, 30001) = NONE; axle(0, 1) = 40
                undo() = 6
                """, "runScript(1, 10101) = NONE; about(0) = 0; undo() = throws.IllegalStateException");
    }

    private void commands() {
        b.test(25, "A script has 1 to 3 commands", """
                runScript(0, 0) = throws.IllegalArgumentException; runScript(1, 60000) = NONE
                runScript(2, 6000060000) = NONE; runScript(3, 600006000060000) = NONE
                runScript(4, 60000) = throws.IllegalArgumentException
                """);
        b.test(25, "the first command is the highest group of the number (with zeros before it, if it has fewer digits)", """
                // the zeros are commands that fail
                runScript(1, 0) = 0; runScript(2, 60000) = 0; runScript(3, 60000) = 0; runScript(3, 6000060000) = 0
                runScript(1, 9999) = 0; runScript(2, 160000) = 0; runScript(2, 1060000) = 0
                """, """
                // 10451, and then 80051: with one axle there is no car yet
                roll(4, 50); runScript(2, 1045180101) = NONE; runScript(2, 8010110451) = 0
                """);
        b.test(25, "`n`: number of commands, 1 to 3", """
                runScript(0, 0) = throws.IllegalArgumentException; runScript(1, 70000) = NONE
                runScript(3, 700007000070000) = NONE; runScript(4, 0) = throws.IllegalArgumentException
                """);
        b.test(25, "`script`: the commands, a number of at most 5 * n digits (0 or more)", """
                runScript(1, 0) = 0; runScript(1, 99999) = 0; runScript(1, 100000) = throws.IllegalArgumentException
                runScript(2, 9999999999) = 0; runScript(2, 10000000000) = throws.IllegalArgumentException
                runScript(3, 999999999999999) = 0; runScript(3, 1000000000000000) = throws.IllegalArgumentException
                runScript(1, -1) = throws.IllegalArgumentException; runScript(2, 0) = 0; runScript(3, 0) = 0
                """);
    }

    private void rolls() {
        b.test(25, "1 p p w w: roll(pp, ww).", succeed(10101, 10199, 16001, 16099, 10899, 10908),
                fail(10001, 10000, 10100, 16100, 16101, 19999), """
                // two axles of 8 and 9, a car of 17
                runScript(3, 104081040980017) = NONE; runScript(3, 104081040980018) = 2
                """,
                // the place for one more, and none
                "29 times roll(4, 50); runScript(1, 10450) = NONE; runScript(2, 1045010450) = 1",
                Rows.FULL_BY_TEXT + "runScript(1, 10450) = 0; runScript(2, 2290010450) = NONE; runScript(2, 5000010450) = NONE");
    }

    private void strikes() {
        b.test(25, "2 i i 0 0: strike(ii).", succeed(20000, 20600), fail(20700, 29900, 20001, 20010, 20690, 20609),
                Rows.TWO_TRAINS + "runScript(2, 2060020600) = 1; runScript(2, 2060020500) = NONE; runScript(2, 2060070000) = NONE",
                "runScript(1, 20000) = 0; roll(4, 50); runScript(1, 20000) = NONE; runScript(2, 2000020000) = 1",
                Rows.FULL_BY_TEXT + "runScript(1, 22900) = NONE; runScript(1, 23000) = 0; runScript(1, 20800) = NONE");
    }

    private void weighs() {
        b.test(25, "3 i i w w: weigh(ii, ww).", succeed(30001, 30099, 30601, 30699), fail(30000, 30600, 30701, 39999),
                // the axle 5 becomes heavier by 1, so that its car is; and so is the axle 5, if 4 is
                Rows.TWO_TRAINS + "runScript(2, 3052380184) = NONE; runScript(2, 3052380185) = 1",
                Rows.FULL_BY_TEXT + "runScript(1, 32951) = NONE; runScript(1, 33051) = 0; runScript(2, 3290981509) = 1; runScript(2, 3295181501) = NONE",
                "runScript(1, 30050) = 0");
    }

    private void sets() {
        b.test(25, "4 s v v 0: set(s, vv).", succeed(40010, 40200, 41010, 41400, 42000, 42600, 43020, 43600),
                fail(40000, 40210, 41000, 41410, 42610, 43010, 43000, 43610),
                fail(44010, 44100, 49050, 49990),
                fail(40011, 40209, 42001, 43605),
                // the end 45 and 46: the train 1 begins with a pause of 45
                Rows.TWO_TRAINS + """
                runScript(3, 434505000060001) = NONE; runScript(3, 434605000060001) = 2
                runScript(2, 4200060003) = 1; runScript(2, 4200060002) = 1; runScript(2, 4200060001) = 1; runScript(2, 4200060000) = NONE
                """);
    }

    private void leaves() {
        b.test(25, "5 0 0 0 0: leave().", succeed(50000), fail(50001, 50009, 50010, 50100, 51000, 59999),
                Rows.TWO_TRAINS + "runScript(2, 5000050000) = NONE; runScript(3, 500005000050000) = 2",
                "runScript(1, 50000) = 0; runScript(2, 1010150000) = NONE; runScript(3, 101015000050000) = 2",
                Rows.FULL_BY_TEXT + "runScript(2, 5000070000) = NONE; runScript(2, 5000020000) = 1");
    }

    private void carsAndStrayAxles() {
        b.test(25, "6 0 0 n n: succeeds if there are at least nn cars.", succeed(60000, 60001, 60002, 60003),
                fail(60004, 60005, 60099), fail(60100, 60103, 61000, 61003, 69900),
                "runScript(1, 60000) = NONE; runScript(1, 60001) = 0",
                Rows.FULL_BY_TEXT + "runScript(1, 60015) = NONE; runScript(1, 60016) = 0; runScript(1, 60008) = NONE; runScript(2, 2290060015) = 1");
        b.test(25, "7 0 0 n n: succeeds if at most nn axles are stray.", succeed(70001, 70002, 70099),
                fail(70000), fail(70101, 70199, 71001, 79999),
                "runScript(1, 70000) = NONE; roll(4, 50); runScript(1, 70000) = 0; runScript(1, 70001) = NONE",
                Rows.FULL_BY_TEXT + "runScript(1, 70000) = NONE; set(3, 2); runScript(1, 70029) = 0; runScript(1, 70030) = NONE");
    }

    private void weights() {
        b.test(25, "8 x x x x: succeeds if all cars together weigh at least xxxx.",
                succeed(80000, 80001, 80182, 80183), fail(80184, 81183, 89999),
                "runScript(1, 80000) = NONE; runScript(1, 80001) = 0; roll(4, 99); runScript(1, 80001) = 0",
                "30 times roll(4, 99); runScript(1, 82970) = NONE; runScript(1, 82971) = 0; runScript(1, 89999) = 0");
    }

    private void axlesInCars() {
        b.test(25, "9 i i 0 k: succeeds if the axle ii is in a car (k is 1), or stray (k is 0).",
                succeed(90001, 90101, 90501, 90600), fail(90000, 90500, 90601),
                // no such axle is neither in a car nor stray
                fail(90700, 90701, 99900, 99901), fail(90002, 90009, 90602, 90011, 90010, 90611, 90690),
                "runScript(1, 90000) = 0; runScript(1, 90001) = 0; roll(4, 50); runScript(1, 90000) = NONE; runScript(1, 90001) = 0",
                Rows.FULL_BY_TEXT + "runScript(1, 92901) = NONE; runScript(1, 92900) = 0; runScript(1, 93001) = 0; runScript(1, 93000) = 0");
    }

    private void failing() {
        b.test(25, "The commands 1 to 5 fail if the method would throw an exception",
                fail(16150, 20700, 30000, 40000), "runScript(2, 5000050000) = 0",
                // the state stays as it was before the command that fails, and nothing behind it is done
                Rows.TWO_TRAINS + "runScript(3, 206002060050000) = 1; about(0) = 7");
        b.test(25, "commands with axles that do not exist fail", fail(20700, 30750, 90700, 90701, 29900, 39950, 99900),
                Rows.TWO_TRAINS + "runScript(2, 2060090600) = 1; runScript(2, 2060030650) = 1; runScript(2, 1045090700) = NONE");
        b.test(25, "and so does any other group (also one with another digit where a 0 is written, or another k).",
                fail(0, 1, 9, 50, 450, 1045, 9999), fail(20001, 20010, 40011, 50001, 50010, 50100, 51000),
                fail(60103, 61003, 70101, 71001, 90011, 90101 + 10, 90602, 90003));
    }

    private void answers() {
        b.test(25, "Returns the index, from 0, of the first command that fails; NONE if all succeed.", Rows.TWO_TRAINS + """
                runScript(1, 60003) = NONE; runScript(1, 60004) = 0
                runScript(2, 6000360003) = NONE; runScript(2, 6000360004) = 1; runScript(2, 6000460003) = 0
                runScript(3, 600036000360003) = NONE; runScript(3, 600036000360004) = 2
                runScript(3, 600036000460003) = 1; runScript(3, 600046000360003) = 0
                // of several the first one
                runScript(2, 6000460004) = 0; runScript(3, 600036000460004) = 1; runScript(3, 600046000460004) = 0
                """);
    }

    private void scriptsRefused() {
        b.test(25, "Throws `IllegalArgumentException` if n is out of range, or if script is negative or has more than 5 * n digits",
                Rows.RICH + """
                runScript(0, 0) = throws.IllegalArgumentException; runScript(4, 0) = throws.IllegalArgumentException
                runScript(-1, 60000) = throws.IllegalArgumentException
                runScript(-2147483648, 60000) = throws.IllegalArgumentException
                runScript(2147483647, 60000) = throws.IllegalArgumentException
                runScript(1, -1) = throws.IllegalArgumentException; runScript(3, -60000) = throws.IllegalArgumentException
                runScript(3, -9223372036854775808) = throws.IllegalArgumentException
                runScript(1, 100000) = throws.IllegalArgumentException
                runScript(2, 10000000000) = throws.IllegalArgumentException
                runScript(3, 1000000000000000) = throws.IllegalArgumentException
                runScript(3, 9223372036854775807) = throws.IllegalArgumentException
                // 2^32 + 60000: as an int it would be one command
                runScript(1, 4295027296) = throws.IllegalArgumentException
                runScript(0, -1) = throws.IllegalArgumentException
                """);
    }

    private void simulate() {
        b.noBoundary(26, "`seed`: any long");
        b.test(26, "Simulates m axles on a copy of the state.", Rows.TWO_TRAINS + """
                simulate(0, 1) = 3183; about(0) = 7; simulate(0, 60) = 8748; about(0) = 7; about(1) = 2; undo() = 6
                """, Rows.FULL_BY_TEXT + "simulate(0, 1) = 0; about(0) = 30; about(4) = 1500");
        b.test(26, "(with long overflow)", """
                // the first pause is 37, of a weight of 40: with the base 20 it is 17 off, 51
                roll(4, 40); set(0, 20); set(2, 26); simulate(9223372036854775807, 1) = 1080
                set(2, 25); simulate(9223372036854775807, 1) = 0
                """, """
                // it is 45: 25 off, 75
                roll(4, 40); set(0, 20); set(3, 46); set(2, 38); simulate(-1, 1) = 1080
                set(2, 37); simulate(-1, 1) = 0; set(2, 38); set(3, 45); simulate(-1, 1) = 0
                """, """
                // it is the base
                roll(4, 40); set(2, 0); simulate(-9223372036854775808, 1) = 1080
                set(0, 1); simulate(-9223372036854775808, 1) = 1080
                """, """
                simulate(9223372036854775807, 60) = 7999; simulate(-9223372036854775808, 60) = 10999
                simulate(-1, 60) = 5374; simulate(0, 60) = 12999; simulate(1, 60) = 6767
                """);
    }

    private void firstNumbers() {
        b.test(26, "A long x starts as the seed, and a weight w as 40.", """
                // a car for nothing only with the same weight
                set(2, 0); roll(4, 40); simulate(0, 1) = 1080; weigh(0, 41); simulate(0, 1) = 0
                weigh(0, 39); simulate(0, 1) = 0
                """);
        b.test(26, "if r / 8 % 2 is 0, w becomes 1 + r / 16 % 99.", """
                // the greatest weight and the least one
                set(2, 0); roll(4, 99); simulate(3, 1) = 1198; weigh(0, 1); simulate(22, 1) = 1002
                """, """
                // otherwise w stays: the second axle is as heavy as the first one, 33
                set(2, 0); simulate(1, 1) = 0; simulate(1, 2) = 1066
                """);
        b.test(26, "For each axle x is first replaced by", "simulate(0, 1) = 0; simulate(0, 2) = 0; simulate(1, 2) = 1066; simulate(-1, 2) = 1078");
    }

    private void pauses() {
        b.test(26, "The pause is 1 + r / 2048 % 60, if r % 8 is 0", """
                // the least one: 1
                set(2, 0); set(0, 1); roll(4, 32); simulate(118, 1) = 1064; set(0, 2); simulate(118, 1) = 0
                """, """
                // 39, which is 19 off the base, 57; and 40, which begins a train
                set(0, 20); set(2, 29); roll(4, 40); simulate(1794, 1) = 1080; set(2, 28); simulate(1794, 1) = 0
                set(2, 60); weigh(0, 59); simulate(82, 1) = 0; set(3, 41); simulate(82, 1) = 1118
                """, """
                // the greatest one: 60, which begins a train in each case
                set(0, 20); set(2, 60); set(3, 60); roll(4, 60); simulate(1018, 1) = 0
                """);
        b.test(26, "the base, if r % 8 is odd", """
                set(2, 0); roll(4, 40); set(0, 1); simulate(0, 1) = 1080; set(0, 20); simulate(0, 1) = 1080
                // the base is at least the end: a train begins
                set(3, 20); simulate(0, 1) = 0; set(3, 21); simulate(0, 1) = 1080
                """);
        b.test(26, "otherwise the gap plus r / 2048 % 4, at most 60.", """
                // the gap itself, and 3 more
                set(2, 0); roll(4, 40); set(0, 6); simulate(4, 1) = 1080; set(0, 7); simulate(4, 1) = 0
                set(0, 9); simulate(33, 1) = 1080; set(0, 10); simulate(33, 1) = 0; set(0, 8); simulate(33, 1) = 0
                """, """
                // the least gap
                set(2, 0); roll(4, 40); set(1, 1); set(0, 1); simulate(4, 1) = 1080; set(0, 4); simulate(33, 1) = 1080
                """, """
                // the greatest gap and 3 more: 43 is 23 off the base, 69
                set(1, 40); set(0, 20); set(3, 44); set(2, 35); roll(4, 40); simulate(33, 1) = 1080
                set(2, 34); simulate(33, 1) = 0; set(2, 35); set(3, 43); simulate(33, 1) = 0
                """);
    }

    private void fullScales() {
        b.test(26, "The axle rolls with this pause and the weight w; if there are 30 axles, leave() is done first.",
                // the 30th axle, and the 31st: the only train leaves
                "29 times roll(4, 50); simulate(0, 1) = 15999; simulate(0, 2) = 0",
                Rows.FULL_BY_TEXT + "simulate(0, 1) = 0; simulate(1, 2) = 1066", """
                // a train of one axle leaves, then one of 30
                roll(4, 50); roll(50, 50); 28 times roll(4, 50); simulate(0, 1) = 15999; simulate(0, 2) = 0
                """, "simulate(0, 29) = 11999; simulate(0, 30) = 12999; simulate(0, 31) = 0");
    }

    private void simulated() {
        b.test(26, "`m`: number of axles, 1 to 60", """
                simulate(0, 0) = throws.IllegalArgumentException; simulate(0, 1) = 0; simulate(0, 60) = 12999
                simulate(0, 61) = throws.IllegalArgumentException
                """);
        b.test(26, "Returns 1000 * (the cars at the end) + (the weight of all cars at the end, or 999 if more).", """
                // the axle that rolls is stray, for it begins a train; the cars weigh 1000, 999, 998
                set(1, 4); 20 times roll(4, 50); simulate(35, 1) = 10999; weigh(19, 49); simulate(35, 1) = 10999
                weigh(19, 48); simulate(35, 1) = 10998
                """, "simulate(35, 1) = 0", "roll(4, 50); simulate(35, 1) = 0");
    }

    private void simulateRefused() {
        b.test(26, "Throws `IllegalArgumentException` if m is out of range", Rows.RICH + """
                simulate(5, 0) = throws.IllegalArgumentException; simulate(5, -1) = throws.IllegalArgumentException
                simulate(5, 61) = throws.IllegalArgumentException
                simulate(9223372036854775807, -2147483648) = throws.IllegalArgumentException
                simulate(-9223372036854775808, 2147483647) = throws.IllegalArgumentException
                """);
    }
}
