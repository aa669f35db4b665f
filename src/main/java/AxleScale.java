/**
 * A freight scale in the track: it records axles and tells which of them make cars, what trains
 * weigh and which axle is most likely wrong. The promises are those of shared/DOC.md.
 *
 * Every query works the plans out anew from the recording, so no plan can be out of date. All rows
 * are made with the object; no call makes another one.
 */
public final class AxleScale {
    public static final int NONE = -1;

    private static final int MOST_AXLES = 30;
    private static final int MOST_CARS = 15;
    private static final int MOST_PAUSE = 60;
    private static final int MOST_WEIGHT = 99;
    private static final int MOST_BILL = 9999;
    private static final int MOST_PLANS = 999999;
    private static final int MOST_STATES = 14;
    private static final int SLOTS = 2;
    private static final int MOST_CHARACTERS = 120;
    private static final int MOST_CODE = 255;
    private static final int MOST_OPEN = 3;
    private static final int MOST_COMMANDS = 3;
    private static final int MOST_SIMULATED = 60;
    private static final int MOST_WEIGHT_TOLD = 999;
    private static final int FIRST_WEIGHT = 40;
    private static final int TICKS_OF_SPEED = 600;
    private static final int GROUP = 100000;

    private static final int BASE = 0;
    private static final int GAP = 1;
    private static final int PRICE = 2;
    private static final int END = 3;
    private static final int[] FIRST_SETTINGS = {4, 6, 15, 40};
    private static final int[] LEAST_SETTINGS = {1, 1, 0, 2};
    private static final int[] MOST_SETTINGS = {20, 40, 60, 60};

    private final Text text;
    private final Recording now;
    private final Recording trial;
    private final Plan plan;
    private final Recording[] states;
    private final Recording[] slots;
    private final boolean[] saved;
    private int nextState;
    private int remembered;

    public AxleScale() {
        text = new Text();
        now = new Recording();
        trial = new Recording();
        plan = new Plan();
        states = new Recording[MOST_STATES];
        for (int k = 0; k < MOST_STATES; k++) {
            states[k] = new Recording();
        }
        slots = new Recording[SLOTS];
        for (int k = 0; k < SLOTS; k++) {
            slots[k] = new Recording();
        }
        saved = new boolean[SLOTS];
    }

    // ---- text

    public int append(int c) throws IllegalArgumentException, IllegalStateException {
        if (c < 0 || c > MOST_CODE) {
            throw new IllegalArgumentException("no character code");
        }
        if (!text.add(c)) {
            throw new IllegalStateException("the text is full");
        }
        return text.length;
    }

    public int clearText() {
        int length = text.length;
        text.length = 0;
        return length;
    }

    public int errorPosition() {
        text.read();
        return text.error;
    }

    public int axlesTold() {
        text.read();
        return text.error == NONE ? text.told : NONE;
    }

    // ---- what there is

    public int about(int what) throws IllegalArgumentException {
        if (what < 0 || what > 7) {
            throw new IllegalArgumentException("no such number");
        }
        plan.workOut(now);
        switch (what) {
            case 0:
                return now.axles;
            case 1:
                return plan.trains;
            case 2:
                return plan.cars;
            case 3:
                return now.axles - 2 * plan.cars;
            case 4:
                return plan.weight;
            case 5:
                return plan.cost;
            case 6:
                return countBills(false);
            default:
                return countBills(true);
        }
    }

    public int axle(int i, int what) throws IndexOutOfBoundsException, IllegalArgumentException {
        demandAxle(i);
        if (what < 0 || what > 3) {
            throw new IllegalArgumentException("no such number of an axle");
        }
        plan.workOut(now);
        switch (what) {
            case 0:
                return at(now.pauses, i);
            case 1:
                return at(now.weights, i);
            case 2:
                return at(plan.trainOfAxle, i);
            default:
                return at(plan.carOfAxle, i);
        }
    }

    public int car(int c, int what) throws IndexOutOfBoundsException, IllegalArgumentException {
        plan.workOut(now);
        if (c < 0 || c >= plan.cars) {
            throw new IndexOutOfBoundsException("no such car");
        }
        if (what < 0 || what > 5) {
            throw new IllegalArgumentException("no such number of a car");
        }
        int first = at(plan.firstAxleOfCar, c);
        switch (what) {
            case 0:
                return first;
            case 1:
                return now.carWeight(first);
            case 2:
                return at(now.pauses, first + 1);
            case 3:
                return now.carSpeed(first);
            case 4:
                return at(plan.trainOfAxle, first);
            default:
                return plan.ticksBeforeCar(now, c);
        }
    }

    public int train(int t, int what) throws IndexOutOfBoundsException, IllegalArgumentException {
        plan.workOut(now);
        demandTrain(t);
        if (what < 0 || what > 7) {
            throw new IllegalArgumentException("no such number of a train");
        }
        switch (what) {
            case 0:
                return at(plan.firstAxleOfTrain, t);
            case 1:
                return plan.axlesOfTrain(t);
            case 2:
                return plan.carsOfTrain(t);
            case 3:
                return plan.weightOfTrain(now, t);
            case 4:
                return at(plan.costOfTrain, t);
            case 5:
                return plan.greatestWeight(now, t);
            case 6:
                return plan.speedDifference(now, t);
            default:
                return billOrNone(t);
        }
    }

    public int setting(int what) throws IllegalArgumentException {
        if (!isSetting(what)) {
            throw new IllegalArgumentException("no such setting");
        }
        return at(now.settings, what);
    }

    // ---- actions

    public int roll(int pause, int weight) throws IllegalArgumentException, IllegalStateException {
        if (!isPause(pause) || !isWeight(weight)) {
            throw new IllegalArgumentException("no such pause or weight");
        }
        if (now.axles >= MOST_AXLES) {
            throw new IllegalStateException("there are 30 axles");
        }
        remember();
        now.addAxle(pause, weight);
        return now.axles - 1;
    }

    public int record() throws IllegalStateException {
        text.read();
        if (text.error != NONE || now.axles + text.told > MOST_AXLES) {
            throw new IllegalStateException("no record, or too many axles");
        }
        remember();
        for (int k = 0; k < text.told && k < MOST_AXLES; k++) {
            now.addAxle(text.pauses[k], text.weights[k]);
        }
        return now.axles;
    }

    public int strike(int i) throws IndexOutOfBoundsException {
        demandAxle(i);
        remember();
        now.dropAxle(i);
        return now.axles;
    }

    public int weigh(int i, int weight) throws IndexOutOfBoundsException, IllegalArgumentException {
        demandAxle(i);
        if (!isWeight(weight)) {
            throw new IllegalArgumentException("no such weight");
        }
        int previous = at(now.weights, i);
        remember();
        now.putWeight(i, weight);
        return previous;
    }

    public int bill(int t, int v) throws IllegalArgumentException {
        if (t < 0 || t >= MOST_AXLES || v < 0 || v > MOST_BILL) {
            throw new IllegalArgumentException("no such train or bill");
        }
        int previous = billOrNone(t);
        remember();
        now.bills[t] = v;
        return previous;
    }

    public int set(int what, int v) throws IllegalArgumentException {
        if (!isValueOfSetting(what, v)) {
            throw new IllegalArgumentException("no such setting or value");
        }
        int previous = at(now.settings, what);
        remember();
        now.putSetting(what, v);
        return previous;
    }

    public int leave() throws IllegalStateException {
        if (now.axles == 0) {
            throw new IllegalStateException("there is no train");
        }
        plan.workOut(now);
        int weight = plan.weightOfTrain(now, 0);
        remember();
        now.dropFirstTrain();
        return weight;
    }

    public int undo() throws IllegalStateException {
        if (remembered == 0) {
            throw new IllegalStateException("nothing is remembered");
        }
        remembered--;
        nextState = (nextState + MOST_STATES - 1) % MOST_STATES;
        copy(states[nextState], now);
        return remembered;
    }

    // ---- what would be

    public int without(int i) throws IndexOutOfBoundsException {
        demandAxle(i);
        copy(now, trial);
        trial.dropAxle(i);
        plan.workOut(trial);
        return plan.weight;
    }

    public int suspect() {
        plan.workOut(now);
        int least = plan.cost;
        int found = NONE;
        for (int i = 0; i < now.axles; i++) {
            copy(now, trial);
            trial.dropAxle(i);
            plan.workOut(trial);
            if (plan.cost < least) {
                least = plan.cost;
                found = i;
            }
        }
        return found;
    }

    public int bestBase() {
        int found = NONE;
        int least = 0;
        copy(now, trial);
        for (int base = LEAST_SETTINGS[BASE]; base <= MOST_SETTINGS[BASE]; base++) {
            trial.putSetting(BASE, base);
            plan.workOut(trial);
            if (found == NONE || plan.cost < least) {
                least = plan.cost;
                found = base;
            }
        }
        return found;
    }

    public int sureness(int i) throws IndexOutOfBoundsException {
        demandAxle(i);
        plan.workOut(now);
        int t = at(plan.trainOfAxle, i);
        return plan.costWithStray(now, t, i) - at(plan.costOfTrain, t);
    }

    public int plans(int t) throws IndexOutOfBoundsException {
        plan.workOut(now);
        demandTrain(t);
        int axles = plan.axlesOfTrain(t);
        int before = 1;
        int count = 1;
        // The last axle is stray, or in a car with the one before it: Fibonacci's numbers.
        for (int k = 2; k <= axles; k++) {
            int more = before + count;
            before = count;
            count = more;
        }
        return Math.min(count, MOST_PLANS);
    }

    public int heavy(int v) throws IllegalArgumentException {
        if (v < 0) {
            throw new IllegalArgumentException("a weight is not negative");
        }
        plan.workOut(now);
        int bits = 0;
        for (int c = 0; c < plan.cars; c++) {
            int first = at(plan.firstAxleOfCar, c);
            if (now.carWeight(first) >= v) {
                bits |= 3 << first;
            }
        }
        return bits;
    }

    // ---- scripts, simulations

    public int runScript(int n, long script) throws IllegalArgumentException {
        if (n < 1 || n > MOST_COMMANDS) {
            throw new IllegalArgumentException("no such number of commands");
        }
        if (script < 0 || withoutLastGroups(script, n) != 0) {
            throw new IllegalArgumentException("no script of so many commands");
        }
        copy(now, trial);
        for (int k = 0; k < n; k++) {
            if (!commandSucceeds((int) (withoutLastGroups(script, n - 1 - k) % GROUP))) {
                return k;
            }
        }
        return NONE;
    }

    public int simulate(long seed, int m) throws IllegalArgumentException {
        if (m < 1 || m > MOST_SIMULATED) {
            throw new IllegalArgumentException("no such number of axles");
        }
        copy(now, trial);
        long x = seed;
        int weight = FIRST_WEIGHT;
        for (int k = 0; k < m; k++) {
            x = x * 6364136223846793005L + 1442695040888963407L;
            int r = (int) (x >>> 33);
            if (r / 8 % 2 == 0) {
                weight = 1 + r / 16 % 99;
            }
            if (trial.axles >= MOST_AXLES) {
                trial.dropFirstTrain();
            }
            trial.addAxle(simulatedPause(r), weight);
        }
        plan.workOut(trial);
        return 1000 * plan.cars + Math.min(plan.weight, MOST_WEIGHT_TOLD);
    }

    // ---- save slots

    public int save(int slot) throws IndexOutOfBoundsException {
        demandSlot(slot);
        copy(now, slots[slot]);
        saved[slot] = true;
        return now.axles;
    }

    public int restore(int slot) throws IndexOutOfBoundsException, IllegalStateException {
        demandSlot(slot);
        if (!saved[slot]) {
            throw new IllegalStateException("nothing has been saved there");
        }
        copy(slots[slot], now);
        remembered = 0;
        return now.axles;
    }

    // ---- the object's own

    private void remember() {
        copy(now, states[nextState]);
        nextState = (nextState + 1) % MOST_STATES;
        remembered = Math.min(remembered + 1, MOST_STATES);
    }

    private void demandAxle(int i) {
        if (!now.has(i)) {
            throw new IndexOutOfBoundsException("no such axle");
        }
    }

    /** Asks the plan that has been worked out last, which has to be that of the present state. */
    private void demandTrain(int t) {
        if (t < 0 || t >= plan.trains) {
            throw new IndexOutOfBoundsException("no such train");
        }
    }

    private static void demandSlot(int slot) {
        if (slot < 0 || slot >= SLOTS) {
            throw new IndexOutOfBoundsException("no such save slot");
        }
    }

    private int billOrNone(int t) {
        int says = at(now.bills, t);
        return says == 0 ? NONE : says;
    }

    private int countBills(boolean wrongOnly) {
        int count = 0;
        for (int t = 0; t < plan.trains; t++) {
            int says = at(now.bills, t);
            if (says != 0 && !(wrongOnly && says == plan.weightOfTrain(now, t))) {
                count++;
            }
        }
        return count;
    }

    private boolean commandSucceeds(int group) {
        int high = group / 100 % 100;
        int low = group % 100;
        switch (group / 10000) {
            case 1:
                return trial.addAxle(high, low);
            case 2:
                return low == 0 && trial.dropAxle(high);
            case 3:
                return trial.putWeight(high, low);
            case 4:
                return low % 10 == 0 && trial.putSetting(high / 10, group / 10 % 100);
            case 5:
                return high == 0 && low == 0 && trial.dropFirstTrain();
            default:
                return conditionHolds(group);
        }
    }

    private boolean conditionHolds(int group) {
        int high = group / 100 % 100;
        int low = group % 100;
        plan.workOut(trial);
        switch (group / 10000) {
            case 6:
                return high == 0 && plan.cars >= low;
            case 7:
                return high == 0 && trial.axles - 2 * plan.cars <= low;
            case 8:
                return plan.weight >= group % 10000;
            case 9:
                return trial.has(high) && low == (at(plan.carOfAxle, high) == NONE ? 0 : 1);
            default:
                return false;
        }
    }

    private int simulatedPause(int r) {
        if (r % 8 == 0) {
            return 1 + r / 2048 % 60;
        }
        if (r % 2 != 0) {
            return at(trial.settings, BASE);
        }
        return Math.min(at(trial.settings, GAP) + r / 2048 % 4, MOST_PAUSE);
    }

    private static long withoutLastGroups(long script, int groups) {
        long rest = script;
        for (int k = 0; k < groups; k++) {
            rest /= GROUP;
        }
        return rest;
    }

    private static boolean isPause(int pause) {
        return pause >= 1 && pause <= MOST_PAUSE;
    }

    private static boolean isWeight(int weight) {
        return weight >= 1 && weight <= MOST_WEIGHT;
    }

    private static boolean isSetting(int what) {
        return what >= 0 && what < FIRST_SETTINGS.length;
    }

    private static boolean isValueOfSetting(int what, int v) {
        return isSetting(what) && v >= at(LEAST_SETTINGS, what) && v <= at(MOST_SETTINGS, what);
    }

    /** So that no index from elsewhere can make the machine throw. */
    private static int at(int[] row, int i) {
        return i >= 0 && i < row.length ? row[i] : 0;
    }

    private static void copy(Recording from, Recording to) {
        if (from == null || to == null) {
            return;
        }
        for (int i = 0; i < MOST_AXLES; i++) {
            to.pauses[i] = from.pauses[i];
            to.weights[i] = from.weights[i];
            to.bills[i] = from.bills[i];
        }
        for (int k = 0; k < FIRST_SETTINGS.length; k++) {
            to.settings[k] = from.settings[k];
        }
        to.axles = from.axles;
    }

    /** A state: all that is remembered before an action, and saved in a slot. */
    private static final class Recording {
        final int[] pauses = new int[MOST_AXLES];
        final int[] weights = new int[MOST_AXLES];
        /** What the bill of each train says, 0 for none. */
        final int[] bills = new int[MOST_AXLES];
        final int[] settings = new int[FIRST_SETTINGS.length];
        int axles;

        Recording() {
            for (int k = 0; k < FIRST_SETTINGS.length; k++) {
                settings[k] = FIRST_SETTINGS[k];
            }
        }

        boolean has(int i) {
            return i >= 0 && i < axles;
        }

        boolean beginsTrain(int i) {
            return i == 0 || at(pauses, i) >= at(settings, END);
        }

        /** Each of the changes tells whether it could be made; if not, nothing is changed. */
        boolean addAxle(int pause, int weight) {
            if (!isPause(pause) || !isWeight(weight) || axles < 0 || axles >= MOST_AXLES) {
                return false;
            }
            pauses[axles] = pause;
            weights[axles] = weight;
            axles++;
            return true;
        }

        boolean dropAxle(int i) {
            if (!has(i)) {
                return false;
            }
            int pause = at(pauses, i);
            dropAxles(i, 1);
            if (has(i)) {
                pauses[i] = Math.min(pauses[i] + pause, MOST_PAUSE);
            }
            return true;
        }

        boolean putWeight(int i, int weight) {
            if (!has(i) || !isWeight(weight)) {
                return false;
            }
            weights[i] = weight;
            return true;
        }

        boolean putSetting(int what, int v) {
            if (!isValueOfSetting(what, v)) {
                return false;
            }
            settings[what] = v;
            return true;
        }

        boolean dropFirstTrain() {
            if (axles == 0) {
                return false;
            }
            int length = 1;
            while (length < axles && !beginsTrain(length)) {
                length++;
            }
            dropAxles(0, length);
            for (int t = 0; t < MOST_AXLES; t++) {
                bills[t] = at(bills, t + 1);
            }
            return true;
        }

        private void dropAxles(int from, int count) {
            for (int i = Math.max(from, 0); i < MOST_AXLES; i++) {
                pauses[i] = at(pauses, i + count);
                weights[i] = at(weights, i + count);
            }
            axles -= count;
        }

        int carWeight(int first) {
            return at(weights, first) + at(weights, first + 1);
        }

        int carSpeed(int first) {
            int pause = at(pauses, first + 1);
            return pause > 0 ? TICKS_OF_SPEED / pause : 0;
        }

        int carCost(int first) {
            return 3 * Math.abs(at(pauses, first + 1) - at(settings, BASE))
                    + Math.abs(at(weights, first) - at(weights, first + 1));
        }
    }

    /** The trains and cars of a recording, as they were when workOut was called last. */
    private static final class Plan {
        /** A value holds a cost and a number of cars: less is cheaper, or as cheap with more cars. */
        private static final int COST = 100;
        private static final int NEVER = 1000000000;

        /** Behind the last train, too: so each one ends where the next one begins. */
        final int[] firstAxleOfTrain = new int[MOST_AXLES + 1];
        final int[] firstCarOfTrain = new int[MOST_AXLES + 1];
        final int[] costOfTrain = new int[MOST_AXLES];
        final int[] trainOfAxle = new int[MOST_AXLES];
        final int[] carOfAxle = new int[MOST_AXLES];
        final int[] firstAxleOfCar = new int[MOST_CARS];
        /** The best value of the axles from one on, if a car begins with it. */
        final int[] valueWithCar = new int[MOST_AXLES + 1];
        /** The best value of the axles from one on, and the first car that gives it. */
        final int[] valueFrom = new int[MOST_AXLES + 1];
        final int[] carFrom = new int[MOST_AXLES + 1];
        int trains;
        int cars;
        int cost;
        int weight;

        void workOut(Recording recording) {
            findTrains(recording);
            cars = 0;
            cost = 0;
            weight = 0;
            for (int t = 0; t < trains && t < MOST_AXLES; t++) {
                int first = firstAxleOfTrain[t];
                findValues(recording, first, firstAxleOfTrain[t + 1], NONE);
                costOfTrain[t] = costOf(at(valueFrom, first));
                cost += costOfTrain[t];
                takeCars(recording, first);
                firstCarOfTrain[t + 1] = cars;
            }
        }

        private void findTrains(Recording recording) {
            trains = 0;
            for (int i = 0; i < recording.axles && i < MOST_AXLES; i++) {
                if (recording.beginsTrain(i) && trains < MOST_AXLES) {
                    firstAxleOfTrain[trains] = i;
                    trains++;
                }
                trainOfAxle[i] = trains - 1;
                carOfAxle[i] = NONE;
            }
            if (trains <= MOST_AXLES) {
                firstAxleOfTrain[trains] = recording.axles;
            }
        }

        /**
         * Finds the best values of a train without the cars that have the axle 'barred'. From the
         * last axle to the first one: a value needs only those behind its first car.
         */
        private void findValues(Recording recording, int first, int end, int barred) {
            int gap = at(recording.settings, GAP);
            for (int from = Math.min(end, MOST_AXLES); from >= first && from >= 0; from--) {
                boolean mayBeCar = from + 1 < end && from != barred && from + 1 != barred;
                valueWithCar[from] = mayBeCar
                        ? COST * recording.carCost(from) - 1 + at(valueFrom, from + 2) : NEVER;
                // No car is before the first axle of a train: its first car misses no ticks.
                chooseCar(recording, from, end, from == first ? 0 : gap);
            }
        }

        private void chooseCar(Recording recording, int from, int end, int gap) {
            int price = at(recording.settings, PRICE);
            int best = COST * price * (end - from);
            int bestCar = NONE;
            int ticks = 0;
            for (int i = from; i + 1 < end; i++) {
                ticks += at(recording.pauses, i);
                int costsBefore = price * (i - from) + 2 * Math.max(gap - ticks, 0);
                int value = COST * costsBefore + at(valueWithCar, i);
                // Only a better one: of several it is the car that begins first.
                if (value < best) {
                    best = value;
                    bestCar = i;
                }
            }
            if (from >= 0 && from <= MOST_AXLES) {
                valueFrom[from] = best;
                carFrom[from] = bestCar;
            }
        }

        private static int costOf(int value) {
            return Math.floorDiv(value + COST - 1, COST);
        }

        private void takeCars(Recording recording, int firstAxle) {
            for (int i = at(carFrom, firstAxle); i != NONE && cars < MOST_CARS; i = at(carFrom, i + 2)) {
                if (i < 0 || i + 1 >= MOST_AXLES) {
                    break;
                }
                firstAxleOfCar[cars] = i;
                carOfAxle[i] = cars;
                carOfAxle[i + 1] = cars;
                weight += recording.carWeight(i);
                cars++;
            }
        }

        int axlesOfTrain(int t) {
            return at(firstAxleOfTrain, t + 1) - at(firstAxleOfTrain, t);
        }

        int carsOfTrain(int t) {
            return at(firstCarOfTrain, t + 1) - at(firstCarOfTrain, t);
        }

        int weightOfTrain(Recording recording, int t) {
            int sum = 0;
            for (int c = at(firstCarOfTrain, t); c < at(firstCarOfTrain, t + 1); c++) {
                sum += recording.carWeight(at(firstAxleOfCar, c));
            }
            return sum;
        }

        int greatestWeight(Recording recording, int t) {
            int greatest = NONE;
            for (int c = at(firstCarOfTrain, t); c < at(firstCarOfTrain, t + 1); c++) {
                greatest = Math.max(greatest, recording.carWeight(at(firstAxleOfCar, c)));
            }
            return greatest;
        }

        int speedDifference(Recording recording, int t) {
            if (carsOfTrain(t) == 0) {
                return NONE;
            }
            int slowest = TICKS_OF_SPEED;
            int fastest = 0;
            for (int c = at(firstCarOfTrain, t); c < at(firstCarOfTrain, t + 1); c++) {
                int speed = recording.carSpeed(at(firstAxleOfCar, c));
                slowest = Math.min(slowest, speed);
                fastest = Math.max(fastest, speed);
            }
            return fastest - slowest;
        }

        int ticksBeforeCar(Recording recording, int c) {
            int first = at(firstAxleOfCar, c);
            if (c == at(firstCarOfTrain, at(trainOfAxle, first))) {
                return NONE;
            }
            int ticks = 0;
            for (int i = at(firstAxleOfCar, c - 1) + 2; i <= first; i++) {
                ticks += at(recording.pauses, i);
            }
            return ticks;
        }

        /** Spoils the values of the train, which nothing needs after workOut, but not the plan. */
        int costWithStray(Recording recording, int t, int i) {
            int first = at(firstAxleOfTrain, t);
            findValues(recording, first, at(firstAxleOfTrain, t + 1), i);
            return costOf(at(valueFrom, first));
        }
    }

    /** The text buffer, and what the last reading of it has found. */
    private static final class Text {
        final int[] characters = new int[MOST_CHARACTERS];
        int length;
        /** The axles told; of more than can ever be recorded only the first ones are kept. */
        final int[] pauses = new int[MOST_AXLES];
        final int[] weights = new int[MOST_AXLES];
        int told;
        int error;
        /** For each repeat that is open: how many times, and how many axles were told before it. */
        final int[] times = new int[MOST_OPEN];
        final int[] toldBefore = new int[MOST_OPEN];
        int open;

        boolean add(int c) {
            if (length < 0 || length >= MOST_CHARACTERS) {
                return false;
            }
            characters[length] = c;
            length++;
            return true;
        }

        void read() {
            told = 0;
            open = 0;
            error = NONE;
            if (characterAt(0) != 'R') {
                error = 0;
                return;
            }
            int place = 1;
            for (int parts = 0; parts < MOST_CHARACTERS && place < length && error == NONE; parts++) {
                place = readPart(place);
            }
            if (error == NONE && open > 0) {
                error = length;
            }
        }

        /** Returns the place behind the part, or the same one if there is an error. */
        private int readPart(int place) {
            int c = characterAt(place);
            if (c == ')') {
                return closeRepeat(place);
            }
            if (c >= '2' && c <= '9' && open < MOST_OPEN && characterAt(place + 1) == '(') {
                times[open] = c - '0';
                toldBefore[open] = told;
                open++;
                return place + 2;
            }
            if (c >= '0' && c <= '6') {
                return readAxle(place);
            }
            // 7 to 9 can only begin a repeat: it is the parenthesis behind that is missing.
            boolean repeatBegun = c >= '7' && c <= '9' && open < MOST_OPEN;
            error = repeatBegun ? place + 1 : place;
            return place;
        }

        private int closeRepeat(int place) {
            // Each part tells at least one axle, so a row without a part has told none.
            if (open <= 0 || told == at(toldBefore, open - 1)) {
                error = place;
                return place;
            }
            open--;
            int row = told - at(toldBefore, open);
            int end = told + row * (at(times, open) - 1);
            for (int k = told; k < end && k < MOST_AXLES; k++) {
                pauses[k] = at(pauses, k - row);
                weights[k] = at(weights, k - row);
            }
            told = end;
            return place + 1;
        }

        private int readAxle(int place) {
            int pause = readNumber(place, MOST_PAUSE);
            if (error != NONE) {
                return place;
            }
            int weight = readNumber(place + 2, MOST_WEIGHT);
            if (error != NONE) {
                return place;
            }
            if (told >= 0 && told < MOST_AXLES) {
                pauses[told] = pause;
                weights[told] = weight;
            }
            told++;
            return place + 4;
        }

        /** Reads two digits, or sets the error. */
        private int readNumber(int place, int most) {
            int tens = digitAt(place);
            if (tens == NONE || 10 * tens > most) {
                error = place;
                return 0;
            }
            int ones = digitAt(place + 1);
            int number = 10 * tens + ones;
            if (ones == NONE || number < 1 || number > most) {
                error = place + 1;
                return 0;
            }
            return number;
        }

        private int characterAt(int place) {
            boolean isThere = place >= 0 && place < length && place < MOST_CHARACTERS;
            return isThere ? characters[place] : NONE;
        }

        private int digitAt(int place) {
            int c = characterAt(place);
            return c >= '0' && c <= '9' ? c - '0' : NONE;
        }
    }
}
