import java.io.IOException;
import java.nio.charset.StandardCharsets;
import java.nio.file.Files;
import java.nio.file.Path;
import java.util.HashSet;
import java.util.Set;
import java.util.function.Supplier;
import java.util.function.ToLongFunction;

/**
 * What is due, sentence by sentence: each one is quoted from the document, stands in it to the letter, and has rows
 * of its own.
 */
final class Sheet {
    private static final Path DOCUMENT = Path.of("../shared/DOC.md");

    private final String name;
    private final String document;
    private final Set<String> quotes = new HashSet<>();
    private String part = "";
    private String section = "";
    private String sentence = "";
    private int rows = 1;
    private int wrong = 0;

    Sheet(String name) {
        this.name = name;
        try {
            document = Files.readString(DOCUMENT, StandardCharsets.UTF_8);
        } catch (IOException e) {
            throw new IllegalStateException(e);
        }
    }

    /** The sentences that follow are of the document's beginning. */
    void beginning() {
        open("what it is", "\n## What it is", "\n## ");
    }

    /** The sentences that follow are of a promise. */
    void promise(int number) {
        open("promise " + number, "\n## Promise " + number + ":", "\n## ");
    }

    /** The sentences that follow are of a part, 1 to 4, of the terms. */
    void terms(int number) {
        open("terms " + number, number == 1 ? "\n## Terms" : "\n==== " + number + ".",
                number == 4 ? "\n## " : "\n==== ");
    }

    private void open(String title, String start, String end) {
        closeSentence();
        int from = document.indexOf(start);
        int to = from < 0 ? -1 : document.indexOf(end, from + start.length());
        part = title;
        section = to < 0 ? "" : document.substring(from, to);
    }

    void sentence(String quote) {
        closeSentence();
        sentence = quote;
        rows = 0;
        if (!section.contains(quote)) {
            fail("the document does not say it");
        }
        if (!quotes.add(part + quote)) {
            fail("it has a test already");
        }
    }

    private void closeSentence() {
        if (rows == 0) {
            fail("it has no row");
        }
    }

    private void fail(String what) {
        wrong++;
        StackTraceElement[] stack = Thread.currentThread().getStackTrace();
        int at = 1;
        while (at < stack.length - 1 && (stack[at].getClassName().equals(Sheet.class.getName())
                || stack[at].getMethodName().equals("due"))) {
            at++;
        }
        System.out.println(name + ": " + part + ", '" + sentence + "': " + what
                + " (" + stack[at].getFileName() + ":" + stack[at].getLineNumber() + ")");
    }

    void due(long got, long want) {
        rows++;
        if (got != want) {
            fail("answered " + got + ", due is " + want);
        }
    }

    void holds(boolean so, String what) {
        rows++;
        if (!so) {
            fail(what);
        }
    }

    void same(String got, String want) {
        holds(got.equals(want), "this is\n" + got + "\ndue is\n" + want);
    }

    void differ(String one, String other) {
        holds(!one.equals(other), "nothing is another");
    }

    /**
     * Two ways to make an office lead to the same: what it holds, what it holds behind each undo(), its image, its
     * tape. Each one is made anew for each look, as an object is good for 512 calls.
     */
    void sameTrail(Supplier<RateOffice> got, Supplier<RateOffice> want) {
        int undos = want.get().count(7);
        for (int n = 0; n <= undos + 1; n++) {
            int times = n;
            sameBehind(got, want, x -> undoTimes(x, times));
        }
        sameBehind(got, want, RateOffice::back);
        sameBehind(got, want, x -> x.text(6));
    }

    private void sameBehind(Supplier<RateOffice> got, Supplier<RateOffice> want, ToLongFunction<RateOffice> step) {
        RateOffice g = got.get();
        RateOffice w = want.get();
        due(step.applyAsLong(g), step.applyAsLong(w));
        due(g.count(7), w.count(7));
        due(g.count(8), w.count(8));
        same(Desk.picture(g), Desk.picture(w));
    }

    private static long undoTimes(RateOffice x, int times) {
        long left = 0;
        for (int i = 0; i < times; i++) {
            left = x.undo();
        }
        return left;
    }

    void fault(String text, int kind, int place) {
        RateOffice x = new RateOffice();
        due(Desk.tell(x, text), -1);
        due(x.fault(0), kind);
        due(x.fault(1), place);
    }

    void right(String text, int lines) {
        RateOffice x = new RateOffice();
        due(Desk.tell(x, text), lines);
        due(x.fault(0), 0);
        due(x.fault(1), -1);
    }

    void end() {
        closeSentence();
        System.out.println(wrong == 0 ? name + ": all " + quotes.size() + " sentences hold"
                : name + ": " + wrong + " rows are not as due");
        if (wrong != 0) {
            System.exit(1);
        }
    }
}
