import java.util.ArrayList;
import java.util.HashSet;
import java.util.List;
import java.util.Set;
import java.util.regex.Matcher;
import java.util.regex.Pattern;

/**
 * The tests of boundary cases: each one names a promise and words of the document, and makes runs of
 * calls, each run on a new object. A run is written as calls with the answers that are due:
 *
 * <pre>
 * roll(4, 40) = 0; axle(0, 4) = throws.IllegalArgumentException
 * type(R0440)            // append, for each sign
 * 3 times roll(4, 40) = 1+   // the answers rise by 1 (or fall: 1-)
 * undo()                 // answers anything, but does not throw
 * </pre>
 *
 * Behind each call that throws, and behind each one of those that change nothing, it is looked at
 * whether something has changed.
 */
final class Boundary {
    private static final int MOST_CALLS = 512;
    private static final Pattern STEP = Pattern.compile(
            "(?:(\\d+) times )?(\\w+\\(.*\\))(?: = (NONE|-?\\d+[+-]?|throws\\.\\w+))?");
    private static final Set<String> CHANGE_NOTHING = Set.of("without", "suspect", "bestBase",
            "sureness", "plans", "heavy", "runScript", "simulate");

    private final Document document;
    private final Set<String> looked = new HashSet<>();
    private String test;
    private int tests = 0;
    private int runs = 0;
    private int wrong = 0;

    private AxleScale scale;
    private List<Call> calls;

    Boundary(Document document) {
        this.document = document;
    }

    /** A test of its own for some words of a promise; 0 is what stands ahead of the promises. */
    void test(int promise, String words, String... written) {
        test = "promise " + promise + ", \"" + words + "\"";
        tests++;
        if (!document.quote(promise, words)) {
            report("the document does not say this");
        }
        for (String run : written) {
            runs++;
            try {
                run(run);
            } catch (RuntimeException e) {
                report("the run can't be made: " + e.getMessage());
            }
        }
    }

    /** Words that name no boundary, or name one that no call can reach. */
    void noBoundary(int promise, String... words) {
        for (String w : words) {
            test = "promise " + promise + ", \"" + w + "\"";
            if (!document.quote(promise, w)) {
                report("the document does not say this");
            }
        }
    }

    boolean end() {
        for (String sentence : document.notQuoted()) {
            wrong++;
            System.out.println("no test quotes " + sentence);
        }
        System.out.println(tests + " boundary tests, " + runs + " runs, " + wrong + " wrong");
        return wrong == 0 && tests > 0;
    }

    private void report(String what) {
        wrong++;
        System.out.println(test + ": " + what);
    }

    private void run(String written) {
        scale = new AxleScale();
        calls = new ArrayList<>();
        for (String line : written.split("\n")) {
            int comment = line.indexOf("//");
            String row = comment < 0 ? line : line.substring(0, comment);
            for (String step : row.split(";")) {
                if (!step.isBlank()) {
                    step(step.strip());
                }
            }
        }
        if (calls.isEmpty()) {
            throw new IllegalStateException("a run without a call");
        }
    }

    private void step(String step) {
        Matcher m = STEP.matcher(step);
        if (!m.matches()) {
            throw new IllegalStateException("no such step: " + step);
        }
        int times = m.group(1) == null ? 1 : Integer.parseInt(m.group(1));
        for (int k = 0; k < times; k++) {
            if (m.group(2).startsWith("type(")) {
                type(m.group(2).substring(5, m.group(2).length() - 1));
            } else {
                call(Call.read(m.group(2)), due(m.group(3), k));
            }
        }
    }

    private static String due(String written, int k) {
        if (written == null || written.startsWith("throws.")) {
            return written;
        }
        if (written.equals("NONE")) {
            return String.valueOf(AxleScale.NONE);
        }
        String number = written.substring(0, written.length() - 1);
        return written.endsWith("+") ? String.valueOf(Integer.parseInt(number) + k)
                : written.endsWith("-") ? String.valueOf(Integer.parseInt(number) - k) : written;
    }

    private void type(String text) {
        for (char c : text.toCharArray()) {
            call(new Call("append", c), null);
        }
    }

    private void call(Call call, String due) {
        if (calls.size() >= MOST_CALLS) {
            throw new IllegalStateException("more than 512 calls");
        }
        String got = call.on(scale);
        boolean right = due == null ? !got.startsWith("throws.") : got.equals(due);
        if (!right) {
            report("run " + runs + ", call " + calls.size() + ": " + call + " answered " + got
                    + ", due is " + (due == null ? "a number" : due));
        }
        if (got.startsWith("throws.") || CHANGE_NOTHING.contains(call.name)) {
            lookWhetherChanged(call);
        }
        calls.add(call);
    }

    private void lookWhetherChanged(Call call) {
        // The same call behind the same calls needs no second look.
        if (!looked.add(calls + " " + call)) {
            return;
        }
        String difference = Twins.difference(calls, call);
        if (difference != null) {
            report("run " + runs + ", call " + calls.size() + ": " + call + " has changed " + difference);
        }
    }
}
