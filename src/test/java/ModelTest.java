import java.util.ArrayDeque;
import java.util.ArrayList;
import java.util.Arrays;
import java.util.Deque;
import java.util.HashMap;
import java.util.HashSet;
import java.util.List;
import java.util.Map;
import java.util.Random;
import java.util.Set;
import java.util.regex.Matcher;
import java.util.regex.Pattern;

/**
 * Long runs of calls, drawn from fixed seeds, against a model that is made another way: it lists all
 * plans of a train instead of choosing car by car, and follows all readings of a text at once.
 */
public final class ModelTest {
    private static final int RUNS = 400;
    private static final int CALLS = 512;
    private static final int NONE = -1;
    private static final long INDEX = Long.MIN_VALUE;
    private static final long ARGUMENT = Long.MIN_VALUE + 1;
    private static final long STATE = Long.MIN_VALUE + 2;

    private static final String[] METHODS = {"append", "clearText", "errorPosition", "axlesTold",
        "about", "axle", "car", "train", "setting", "roll", "record", "strike", "weigh", "bill", "set",
        "leave", "undo", "without", "suspect", "bestBase", "sureness", "plans", "heavy", "runScript",
        "simulate", "save", "restore"};

    public static void main(String[] args) {
        shortTexts();
        long[] answered = new long[METHODS.length];
        long[] thrown = new long[METHODS.length];
        for (int run = 0; run < RUNS; run++) {
            Run r = new Run(run);
            for (int call = 0; call < CALLS; call++) {
                r.next();
                if (r.wrong != null) {
                    System.out.println("run " + run + ", call " + call + ": " + r.wrong);
                    System.out.println("behind " + r.calls);
                    System.exit(1);
                }
                if (r.lastWant <= STATE) {
                    thrown[r.lastMethod]++;
                } else {
                    answered[r.lastMethod]++;
                }
            }
        }
        for (int k = 0; k < METHODS.length; k++) {
            if (answered[k] == 0) {
                System.out.println(METHODS[k] + " never answered");
                System.exit(1);
            }
        }
        System.out.println("the class and the model agree in " + RUNS + " runs");
    }

    /** All short texts of the signs that matter, behind the beginnings where much is decided. */
    private static void shortTexts() {
        String[] beginnings = {"", "R", "R0", "R04", "R044", "R2", "R2(", "R2(2(", "R2(2(2(", "R2(2(2(0440",
            "R2(2(2(0440)", "R2(2(0440)", "R6(0440)"};
        int texts = 0;
        for (String beginning : beginnings) {
            texts += checkTexts(beginning, 4);
        }
        System.out.println("the class and the model agree on " + texts + " short texts");
    }

    private static int checkTexts(String text, int more) {
        AxleScale x = new AxleScale();
        for (char c : text.toCharArray()) {
            x.append(c);
        }
        int error = errorOf(text);
        int told = error == NONE ? writtenOut(text).length() / 4 : NONE;
        if (x.errorPosition() != error || x.axlesTold() != told) {
            System.out.println("the text " + text + ": errorPosition() answered " + x.errorPosition()
                    + " and axlesTold() " + x.axlesTold() + ", the model says " + error + " and " + told);
            System.exit(1);
        }
        int texts = 1;
        for (char c : (more == 0 ? "" : "R0124679()").toCharArray()) {
            texts += checkTexts(text + c, more - 1);
        }
        return texts;
    }

    // ---- the model

    private static final class State {
        List<int[]> axles = new ArrayList<>();
        int[] settings = {4, 6, 15, 40};
        Map<Integer, Integer> bills = new HashMap<>();

        State copy() {
            State s = new State();
            for (int[] a : axles) {
                s.axles.add(a.clone());
            }
            s.settings = settings.clone();
            s.bills = new HashMap<>(bills);
            return s;
        }

        List<List<Integer>> trains() {
            List<List<Integer>> trains = new ArrayList<>();
            for (int i = 0; i < axles.size(); i++) {
                if (i == 0 || axles.get(i)[0] >= settings[3]) {
                    trains.add(new ArrayList<>());
                }
                trains.get(trains.size() - 1).add(i);
            }
            return trains;
        }

        Listing listing(List<Integer> train) {
            int[][] rows = new int[train.size()][];
            for (int k = 0; k < rows.length; k++) {
                rows[k] = axles.get(train.get(k));
            }
            String key = Arrays.deepToString(rows) + Arrays.toString(settings);
            if (Listing.KNOWN.size() > 20000) {
                Listing.KNOWN.clear();
            }
            return Listing.KNOWN.computeIfAbsent(key, unused -> new Listing(rows, settings));
        }

        List<int[]> cars() {
            List<int[]> cars = new ArrayList<>();
            List<List<Integer>> trains = trains();
            for (int t = 0; t < trains.size(); t++) {
                for (int c : listing(trains.get(t)).best) {
                    cars.add(new int[] {trains.get(t).get(c), t});
                }
            }
            return cars;
        }

        int carWeight(int[] car) {
            return axles.get(car[0])[1] + axles.get(car[0] + 1)[1];
        }

        int weight() {
            return cars().stream().mapToInt(this::carWeight).sum();
        }

        int weight(int t) {
            return cars().stream().filter(c -> c[1] == t).mapToInt(this::carWeight).sum();
        }

        int cost() {
            return trains().stream().mapToInt(t -> listing(t).cost).sum();
        }

        int carOf(int i) {
            List<int[]> cars = cars();
            for (int c = 0; c < cars.size(); c++) {
                if (cars.get(c)[0] == i || cars.get(c)[0] + 1 == i) {
                    return c;
                }
            }
            return NONE;
        }

        int trainOf(int i) {
            List<List<Integer>> trains = trains();
            for (int t = 0; t < trains.size(); t++) {
                if (trains.get(t).contains(i)) {
                    return t;
                }
            }
            return NONE;
        }

        boolean there(int i) {
            return i >= 0 && i < axles.size();
        }

        long roll(int pause, int weight) {
            if (pause < 1 || pause > 60 || weight < 1 || weight > 99) {
                return ARGUMENT;
            }
            if (axles.size() == 30) {
                return STATE;
            }
            axles.add(new int[] {pause, weight});
            return axles.size() - 1;
        }

        long strike(int i) {
            if (!there(i)) {
                return INDEX;
            }
            int pause = axles.remove(i)[0];
            if (i < axles.size()) {
                axles.get(i)[0] = Math.min(60, axles.get(i)[0] + pause);
            }
            return axles.size();
        }

        long weigh(int i, int weight) {
            if (!there(i)) {
                return INDEX;
            }
            if (weight < 1 || weight > 99) {
                return ARGUMENT;
            }
            int before = axles.get(i)[1];
            axles.get(i)[1] = weight;
            return before;
        }

        long bill(int t, int v) {
            if (t < 0 || t > 29 || v < 0 || v > 9999) {
                return ARGUMENT;
            }
            Integer before = v == 0 ? bills.remove(t) : bills.put(t, v);
            return before == null ? NONE : before;
        }

        long set(int what, int v) {
            int[][] ranges = {{1, 20}, {1, 40}, {0, 60}, {2, 60}};
            if (what < 0 || what > 3 || v < ranges[what][0] || v > ranges[what][1]) {
                return ARGUMENT;
            }
            int before = settings[what];
            settings[what] = v;
            return before;
        }

        long leave() {
            if (axles.isEmpty()) {
                return STATE;
            }
            int weight = weight(0);
            axles.subList(0, trains().get(0).size()).clear();
            Map<Integer, Integer> moved = new HashMap<>();
            bills.forEach((t, v) -> {
                if (t > 0) {
                    moved.put(t - 1, v);
                }
            });
            bills = moved;
            return weight;
        }
    }

    /** All plans of one train. */
    private static final class Listing {
        static final Map<String, Listing> KNOWN = new HashMap<>();

        final int[][] rows;
        final int[] settings;
        final int[] strayCost;
        int cost = Integer.MAX_VALUE;
        int plans = 0;
        List<Integer> best;

        Listing(int[][] rows, int[] settings) {
            this.rows = rows;
            this.settings = settings.clone();
            strayCost = new int[rows.length];
            Arrays.fill(strayCost, Integer.MAX_VALUE);
            list(0, new int[15], 0, 0, 0);
        }

        private void list(int at, int[] cars, int count, int costs, int strays) {
            if (at >= rows.length) {
                take(cars, count, costs, strays);
                return;
            }
            list(at + 1, cars, count, costs + settings[2], strays | 1 << at);
            if (at + 1 < rows.length) {
                int more = 3 * Math.abs(rows[at + 1][0] - settings[0])
                        + Math.abs(rows[at][1] - rows[at + 1][1]);
                if (count > 0) {
                    int ticks = 0;
                    for (int k = cars[count - 1] + 2; k <= at; k++) {
                        ticks += rows[k][0];
                    }
                    more += ticks < settings[1] ? 2 * (settings[1] - ticks) : 0;
                }
                cars[count] = at;
                list(at + 2, cars, count + 1, costs + more, strays);
            }
        }

        private void take(int[] cars, int count, int costs, int strays) {
            plans++;
            for (int i = 0; i < rows.length; i++) {
                if ((strays >> i & 1) == 1) {
                    strayCost[i] = Math.min(strayCost[i], costs);
                }
            }
            if (best == null || costs < cost || costs == cost && (count > best.size()
                    || count == best.size() && earlier(cars, best))) {
                cost = costs;
                best = new ArrayList<>();
                for (int k = 0; k < count; k++) {
                    best.add(cars[k]);
                }
            }
        }

        private static boolean earlier(int[] cars, List<Integer> than) {
            for (int k = 0; k < than.size(); k++) {
                if (cars[k] != than.get(k)) {
                    return cars[k] < than.get(k);
                }
            }
            return false;
        }
    }

    /** The readings of a text that are still possible: each one a place in a part, and open rows. */
    private static int errorOf(String text) {
        Set<String> readings = new HashSet<>(Set.of("start|"));
        for (int i = 0; i < text.length(); i++) {
            Set<String> next = new HashSet<>();
            for (String reading : readings) {
                follow(reading, text.charAt(i), next);
            }
            if (next.isEmpty()) {
                return i;
            }
            readings = next;
        }
        return readings.contains("row|") ? NONE : text.length();
    }

    private static void follow(String reading, char c, Set<String> next) {
        int bar = reading.indexOf('|');
        String phase = reading.substring(0, bar);
        // For each open row, e: no part yet, p: a part.
        String rows = reading.substring(bar + 1);
        String marked = rows.isEmpty() ? "" : rows.substring(0, rows.length() - 1) + "p";
        boolean digit = c >= '0' && c <= '9';
        if (phase.equals("start") && c == 'R') {
            next.add("row|");
        } else if (phase.equals("row")) {
            if (digit && c <= '6') {
                next.add("pause" + c + "|" + rows);
            }
            if (digit && c >= '2' && rows.length() < 3) {
                next.add("times|" + rows);
            }
            if (c == ')' && rows.endsWith("p")) {
                String outer = rows.substring(0, rows.length() - 1);
                next.add("row|" + (outer.isEmpty() ? "" : outer.substring(0, outer.length() - 1) + "p"));
            }
        } else if (phase.equals("times") && c == '(') {
            next.add("row|" + rows + "e");
        } else if (phase.startsWith("pause") && digit) {
            int pause = Integer.parseInt(phase.substring(5) + c);
            if (pause >= 1 && pause <= 60) {
                next.add("middle|" + rows);
            }
        } else if (phase.equals("middle") && digit) {
            next.add("weight" + c + "|" + rows);
        } else if (phase.startsWith("weight") && digit && Integer.parseInt(phase.substring(6) + c) > 0) {
            next.add("row|" + marked);
        }
    }

    private static final Pattern INNERMOST = Pattern.compile("([2-9])\\(([0-9]*)\\)");

    /** A record written out without repeats. */
    private static String writtenOut(String text) {
        String row = text.substring(1);
        for (Matcher m = INNERMOST.matcher(row); m.find(); m = INNERMOST.matcher(row)) {
            String times = m.group(2).repeat(Integer.parseInt(m.group(1)));
            row = row.substring(0, m.start()) + times + row.substring(m.end());
        }
        return row;
    }

    // ---- a run

    private static final class Run {
        final Random random;
        final AxleScale scale = new AxleScale();
        final StringBuilder calls = new StringBuilder();
        final StringBuilder text = new StringBuilder();
        final int mostRolled;
        State state = new State();
        final Deque<State> states = new ArrayDeque<>();
        final State[] slots = new State[2];
        String toType = "";
        String wrong = null;
        int lastMethod;
        long lastWant;

        Run(int seed) {
            random = new Random(seed * 7919L + 13);
            // Many runs stay short, for listing all plans of 30 axles takes its time.
            mostRolled = seed % 45 == 0 ? 30 : seed % 9 == 1 ? 22 : 13;
        }

        int upTo(int most) {
            return random.nextInt(most + 1);
        }

        /** Mostly within the range, sometimes beside it. */
        int near(int least, int most) {
            if (upTo(15) == 0) {
                int[] odd = {least - 1, most + 1, Integer.MIN_VALUE, Integer.MAX_VALUE, -1};
                return odd[upTo(4)];
            }
            return least > most ? least : least + upTo(most - least);
        }

        void next() {
            int method = toType.isEmpty() ? drawnMethod() : 0;
            lastMethod = method;
            int[] a = arguments(METHODS[method]);
            long number = METHODS[method].equals("runScript") ? script(a[0])
                    : METHODS[method].equals("simulate") ? random.nextLong() >> upTo(63) : 0;
            lastWant = model(METHODS[method], a, number);
            long got;
            try {
                got = call(METHODS[method], a, number);
            } catch (RuntimeException e) {
                got = e.getClass() == IndexOutOfBoundsException.class ? INDEX
                        : e.getClass() == IllegalArgumentException.class ? ARGUMENT
                        : e.getClass() == IllegalStateException.class ? STATE : Long.MAX_VALUE;
            }
            String told = METHODS[method] + Arrays.toString(a) + number + " -> " + got;
            if (got != lastWant) {
                wrong = told + ", the model says " + lastWant;
            }
            calls.append(told).append("; ");
        }

        /** Calls that make the state or the text small are drawn less often. */
        int drawnMethod() {
            int method = upTo(METHODS.length - 1);
            switch (METHODS[method]) {
                case "leave": case "restore": case "undo": case "strike":
                    return upTo(3) > 0 ? 9 : method;
                case "clearText":
                    return upTo(2) > 0 ? 10 : method;
                case "suspect":
                    return state.axles.size() > 24 && upTo(9) > 0 ? 4 : method;
                default:
                    return method;
            }
        }

        int[] arguments(String method) {
            int axles = state.axles.size();
            switch (method) {
                case "append":
                    return new int[] {nextCharacter()};
                case "about":
                    return new int[] {near(0, 7)};
                case "axle":
                    return new int[] {near(0, axles - 1), near(0, 3)};
                case "car":
                    return new int[] {near(0, Math.max(0, state.cars().size() - 1)), near(0, 5)};
                case "train":
                    return new int[] {near(0, Math.max(0, state.trains().size() - 1)), near(0, 7)};
                case "setting":
                    return new int[] {near(0, 3)};
                case "roll":
                    return new int[] {pause(), upTo(2) == 0 ? near(1, 99) : 40 + upTo(3)};
                case "strike": case "without": case "sureness":
                    return new int[] {near(0, axles - 1)};
                case "weigh":
                    return new int[] {near(0, axles - 1), near(1, 99)};
                case "bill":
                    int t = upTo(3) == 0 ? near(0, 29) : near(0, 3);
                    int exact = state.weight(t);
                    return new int[] {t, upTo(1) == 0 && exact > 0 ? exact : near(0, 9999)};
                case "set":
                    return setting();
                case "plans":
                    return new int[] {near(0, Math.max(0, state.trains().size() - 1))};
                case "heavy":
                    return new int[] {near(0, 200)};
                case "runScript":
                    return new int[] {near(1, 3)};
                case "simulate":
                    return new int[] {simulated()};
                case "save": case "restore":
                    return new int[] {near(0, 1)};
                default:
                    return new int[0];
            }
        }

        int simulated() {
            int m = near(1, 60);
            // The model would list the plans of up to 30 axles.
            return mostRolled == 30 || m < 1 || m > 60 ? m : 1 + m % 12;
        }

        int pause() {
            if (state.axles.size() >= mostRolled && state.axles.size() < 30) {
                return 0;
            }
            int[] usual = {3, 4, 4, 5, 6, 7, 8, 10, 40};
            return upTo(2) == 0 ? near(1, 60) : usual[upTo(8)];
        }

        int[] setting() {
            int what = near(0, 3);
            switch (what) {
                case 0:
                    return new int[] {what, near(1, 20)};
                case 1:
                    return new int[] {what, near(1, 40)};
                case 2:
                    return new int[] {what, near(0, 60)};
                default:
                    return new int[] {what, near(2, 60)};
            }
        }

        int nextCharacter() {
            if (toType.isEmpty()) {
                String record = writing();
                // Behind a text that has begun, mostly another row.
                toType = upTo(text.length() == 0 ? 40 : 15) == 0 ? "" + (char) upTo(255)
                        : text.length() > 0 && record.length() > 1 ? record.substring(1) : record;
            }
            if (upTo(200) == 0) {
                return near(0, 255);
            }
            int c = toType.charAt(0);
            toType = toType.substring(1);
            return c;
        }

        String writing() {
            StringBuilder b = new StringBuilder("R");
            int parts = upTo(3);
            for (int k = 0; k < parts; k++) {
                writePart(b, 0);
            }
            if (upTo(7) == 0) {
                String signs = "0123456789()R ";
                b.setCharAt(upTo(b.length() - 1), signs.charAt(upTo(13)));
            }
            return b.toString();
        }

        void writePart(StringBuilder b, int depth) {
            if (upTo(2) == 0 && depth < (upTo(9) == 0 ? 4 : 3)) {
                b.append(upTo(4) == 0 ? 2 + upTo(7) : 2).append('(');
                int parts = upTo(12) == 0 ? 0 : 1 + upTo(1);
                for (int k = 0; k < parts; k++) {
                    writePart(b, depth + 1);
                }
                b.append(')');
                return;
            }
            int pause = upTo(3) == 0 ? upTo(61) : 3 + upTo(6);
            int weight = upTo(3) == 0 ? upTo(99) : 40 + upTo(5);
            b.append(pause / 10).append(pause % 10).append(weight / 10).append(weight % 10);
        }

        long script(int n) {
            if (n < 1 || n > 3 || upTo(15) == 0) {
                long[] odd = {-1, Long.MIN_VALUE, Long.MAX_VALUE, 99999, 100000, 9999999999L, 10000000000L,
                    999999999999999L, 1000000000000000L, 0};
                return odd[upTo(9)];
            }
            long script = 0;
            for (int k = 0; k < n; k++) {
                script = script * 100000 + command();
            }
            return script;
        }

        int command() {
            int i = upTo(9) == 0 ? upTo(99) : upTo(Math.max(0, state.axles.size() - 1));
            int odd = upTo(9) == 0 ? upTo(9) : 0;
            switch (upTo(9)) {
                case 1:
                    return 10000 + 100 * (upTo(2) == 0 ? upTo(61) : 3 + upTo(4)) + upTo(99);
                case 2:
                    return 20000 + 100 * i + odd;
                case 3:
                    return 30000 + 100 * i + upTo(99);
                case 4:
                    return 40000 + 1000 * upTo(upTo(4) == 0 ? 9 : 3) + 10 * upTo(62) + odd;
                case 5:
                    return 50000 + odd;
                case 6:
                    return 60000 + 100 * odd + Math.max(0, state.cars().size() - 1 + upTo(2));
                case 7:
                    return 70000 + 1000 * odd
                            + Math.max(0, state.axles.size() - 2 * state.cars().size() - 1 + upTo(2));
                case 8:
                    return 80000 + Math.max(0, state.weight() - 1 + upTo(2));
                case 9:
                    return 90000 + 100 * i + 10 * (odd % 2) + (upTo(5) == 0 ? upTo(9) : upTo(1));
                default:
                    return upTo(99999);
            }
        }

        long call(String method, int[] a, long number) {
            switch (method) {
                case "append": return scale.append(a[0]);
                case "clearText": return scale.clearText();
                case "errorPosition": return scale.errorPosition();
                case "axlesTold": return scale.axlesTold();
                case "about": return scale.about(a[0]);
                case "axle": return scale.axle(a[0], a[1]);
                case "car": return scale.car(a[0], a[1]);
                case "train": return scale.train(a[0], a[1]);
                case "setting": return scale.setting(a[0]);
                case "roll": return scale.roll(a[0], a[1]);
                case "record": return scale.record();
                case "strike": return scale.strike(a[0]);
                case "weigh": return scale.weigh(a[0], a[1]);
                case "bill": return scale.bill(a[0], a[1]);
                case "set": return scale.set(a[0], a[1]);
                case "leave": return scale.leave();
                case "undo": return scale.undo();
                case "without": return scale.without(a[0]);
                case "suspect": return scale.suspect();
                case "bestBase": return scale.bestBase();
                case "sureness": return scale.sureness(a[0]);
                case "plans": return scale.plans(a[0]);
                case "heavy": return scale.heavy(a[0]);
                case "runScript": return scale.runScript(a[0], number);
                case "simulate": return scale.simulate(number, a[0]);
                case "save": return scale.save(a[0]);
                default: return scale.restore(a[0]);
            }
        }

        // ---- what the model answers

        long model(String method, int[] a, long number) {
            switch (method) {
                case "append": return append(a[0]);
                case "clearText": return clearText();
                case "errorPosition": return errorOf(text.toString());
                case "axlesTold":
                    return errorOf(text.toString()) != NONE ? NONE : writtenOut(text.toString()).length() / 4;
                case "about": return about(a[0]);
                case "axle": return axle(a[0], a[1]);
                case "car": return car(a[0], a[1]);
                case "train": return train(a[0], a[1]);
                case "setting": return a[0] < 0 || a[0] > 3 ? ARGUMENT : state.settings[a[0]];
                case "roll": case "record": case "strike": case "weigh": case "bill": case "set":
                case "leave": return action(method, a);
                case "undo": return undo();
                case "without": return without(a[0]);
                case "suspect": return suspect();
                case "bestBase": return bestBase();
                case "sureness": return sureness(a[0]);
                case "plans":
                    return noTrain(a[0]) ? INDEX
                            : Math.min(999999, state.listing(state.trains().get(a[0])).plans);
                case "heavy": return heavy(a[0]);
                case "runScript": return runScript(a[0], number);
                case "simulate": return simulate(number, a[0]);
                case "save": return save(a[0]);
                default: return restore(a[0]);
            }
        }

        boolean noTrain(int t) {
            return t < 0 || t >= state.trains().size();
        }

        long append(int c) {
            if (c < 0 || c > 255) {
                return ARGUMENT;
            }
            if (text.length() == 120) {
                return STATE;
            }
            text.append((char) c);
            return text.length();
        }

        long clearText() {
            int length = text.length();
            text.setLength(0);
            return length;
        }

        long about(int what) {
            int billed = 0;
            int wrongBills = 0;
            for (int t = 0; t < state.trains().size(); t++) {
                if (state.bills.containsKey(t)) {
                    billed++;
                    wrongBills += state.bills.get(t) == state.weight(t) ? 0 : 1;
                }
            }
            int[] numbers = {state.axles.size(), state.trains().size(), state.cars().size(),
                state.axles.size() - 2 * state.cars().size(), state.weight(), state.cost(), billed,
                wrongBills};
            return what < 0 || what > 7 ? ARGUMENT : numbers[what];
        }

        long axle(int i, int what) {
            if (!state.there(i)) {
                return INDEX;
            }
            int[] numbers = {state.axles.get(i)[0], state.axles.get(i)[1], state.trainOf(i),
                state.carOf(i)};
            return what < 0 || what > 3 ? ARGUMENT : numbers[what];
        }

        long car(int c, int what) {
            List<int[]> cars = state.cars();
            if (c < 0 || c >= cars.size()) {
                return INDEX;
            }
            int[] car = cars.get(c);
            int pause = state.axles.get(car[0] + 1)[0];
            int ticks = NONE;
            if (c > 0 && cars.get(c - 1)[1] == car[1]) {
                ticks = 0;
                for (int k = cars.get(c - 1)[0] + 2; k <= car[0]; k++) {
                    ticks += state.axles.get(k)[0];
                }
            }
            int[] numbers = {car[0], state.carWeight(car), pause, 600 / pause, car[1], ticks};
            return what < 0 || what > 5 ? ARGUMENT : numbers[what];
        }

        long train(int t, int what) {
            if (noTrain(t)) {
                return INDEX;
            }
            List<Integer> train = state.trains().get(t);
            List<int[]> cars = new ArrayList<>(state.cars());
            cars.removeIf(c -> c[1] != t);
            int greatest = cars.stream().mapToInt(state::carWeight).max().orElse(NONE);
            int fastest = cars.stream().mapToInt(c -> 600 / state.axles.get(c[0] + 1)[0]).max().orElse(NONE);
            int slowest = cars.stream().mapToInt(c -> 600 / state.axles.get(c[0] + 1)[0]).min().orElse(0);
            int[] numbers = {train.get(0), train.size(), cars.size(), state.weight(t),
                state.listing(train).cost, greatest, fastest - slowest, state.bills.getOrDefault(t, NONE)};
            return what < 0 || what > 7 ? ARGUMENT : numbers[what];
        }

        long action(String method, int[] a) {
            State before = state.copy();
            long answer = act(method, a);
            if (answer > STATE) {
                states.addLast(before);
                if (states.size() > 14) {
                    states.removeFirst();
                }
            } else {
                state = before;
            }
            return answer;
        }

        long act(String method, int[] a) {
            switch (method) {
                case "roll": return state.roll(a[0], a[1]);
                case "strike": return state.strike(a[0]);
                case "weigh": return state.weigh(a[0], a[1]);
                case "bill": return state.bill(a[0], a[1]);
                case "set": return state.set(a[0], a[1]);
                case "leave": return state.leave();
                default: return record();
            }
        }

        long record() {
            if (errorOf(text.toString()) != NONE) {
                return STATE;
            }
            String row = writtenOut(text.toString());
            for (int k = 0; k < row.length(); k += 4) {
                if (state.roll(Integer.parseInt(row.substring(k, k + 2)),
                        Integer.parseInt(row.substring(k + 2, k + 4))) <= STATE) {
                    return STATE;
                }
            }
            return state.axles.size();
        }

        long undo() {
            if (states.isEmpty()) {
                return STATE;
            }
            state = states.removeLast();
            return states.size();
        }

        long without(int i) {
            State s = state.copy();
            return s.strike(i) == INDEX ? INDEX : s.weight();
        }

        long suspect() {
            int least = state.cost();
            int found = NONE;
            for (int i = state.axles.size() - 1; i >= 0; i--) {
                State s = state.copy();
                s.strike(i);
                if (s.cost() < least || s.cost() == least && found != NONE) {
                    least = s.cost();
                    found = i;
                }
            }
            return found;
        }

        long bestBase() {
            int found = 20;
            int least = Integer.MAX_VALUE;
            for (int base = 20; base >= 1; base--) {
                State s = state.copy();
                s.settings[0] = base;
                if (s.cost() <= least) {
                    least = s.cost();
                    found = base;
                }
            }
            return found;
        }

        long sureness(int i) {
            if (!state.there(i)) {
                return INDEX;
            }
            List<Integer> train = state.trains().get(state.trainOf(i));
            Listing listing = state.listing(train);
            return listing.strayCost[train.indexOf(i)] - listing.cost;
        }

        long heavy(int v) {
            long bits = 0;
            for (int[] car : state.cars()) {
                bits += state.carWeight(car) >= v ? (1L << car[0]) + (2L << car[0]) : 0;
            }
            return v < 0 ? ARGUMENT : bits;
        }

        long runScript(int n, long script) {
            if (n < 1 || n > 3 || script < 0 || String.valueOf(script).length() > 5 * n) {
                return ARGUMENT;
            }
            String digits = "0".repeat(5 * n - String.valueOf(script).length()) + script;
            State s = state.copy();
            for (int k = 0; k < n; k++) {
                if (!succeeds(s, digits.substring(5 * k, 5 * k + 5))) {
                    return k;
                }
            }
            return NONE;
        }

        boolean succeeds(State s, String d) {
            int ii = Integer.parseInt(d.substring(1, 3));
            int ww = Integer.parseInt(d.substring(3));
            if (d.matches("1....")) {
                return s.roll(ii, ww) > STATE;
            } else if (d.matches("2..00")) {
                return s.strike(ii) > STATE;
            } else if (d.matches("3....")) {
                return s.weigh(ii, ww) > STATE;
            } else if (d.matches("4...0")) {
                return s.set(d.charAt(1) - '0', Integer.parseInt(d.substring(2, 4))) > STATE;
            } else if (d.equals("50000")) {
                return s.leave() > STATE;
            } else if (d.matches("600..")) {
                return s.cars().size() >= ww;
            } else if (d.matches("700..")) {
                return s.axles.size() - 2 * s.cars().size() <= ww;
            } else if (d.matches("8....")) {
                return s.weight() >= Integer.parseInt(d.substring(1));
            } else if (d.matches("9..0[01]")) {
                return s.there(ii) && (s.carOf(ii) != NONE) == d.endsWith("1");
            }
            return false;
        }

        long simulate(long seed, int m) {
            if (m < 1 || m > 60) {
                return ARGUMENT;
            }
            State s = state.copy();
            long x = seed;
            int w = 40;
            for (int k = 0; k < m; k++) {
                x = x * 6364136223846793005L + 1442695040888963407L;
                int r = (int) (x >>> 33);
                w = r / 8 % 2 == 0 ? 1 + r / 16 % 99 : w;
                int pause = Math.min(60, s.settings[1] + r / 2048 % 4);
                pause = r % 8 == 0 ? 1 + r / 2048 % 60 : r % 2 == 1 ? s.settings[0] : pause;
                if (s.axles.size() == 30) {
                    s.axles.subList(0, s.trains().get(0).size()).clear();
                }
                s.roll(pause, w);
            }
            return 1000L * s.cars().size() + Math.min(999, s.weight());
        }

        long save(int slot) {
            if (slot != 0 && slot != 1) {
                return INDEX;
            }
            slots[slot] = state.copy();
            return state.axles.size();
        }

        long restore(int slot) {
            if (slot != 0 && slot != 1) {
                return INDEX;
            }
            if (slots[slot] == null) {
                return STATE;
            }
            state = slots[slot].copy();
            states.clear();
            return state.axles.size();
        }
    }
}
