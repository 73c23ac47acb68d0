import java.util.ArrayList;
import java.util.List;

/** Counts answers that are due, prints those that are not, and ends a test. */
final class Checks {
    private static final int MOST_PRINTED = 20;

    /** Words of the document, and the promise under whose heading they stand (0: ahead of the promises). */
    record Sentence(int promise, String words) {
    }

    private final String test;
    private final List<Sentence> sentences = new ArrayList<>();
    private String beside = "";
    private int asDue = 0;
    private int dueBeside = 1;
    private int wrong = 0;

    Checks(String test) {
        this.test = test;
    }

    /** The document's own words, beside which all that follows stands, up to the next ones. */
    void sentence(int promise, String words) {
        endSentence();
        sentences.add(new Sentence(promise, words));
        beside = " [" + words + "]";
        dueBeside = 0;
    }

    List<Sentence> sentences() {
        endSentence();
        return sentences;
    }

    private void endSentence() {
        if (dueBeside == 0) {
            due("a test of its own" + beside, 0, 1);
        }
        beside = "";
    }

    void due(String call, long got, long want) {
        dueBeside++;
        if (got == want) {
            asDue++;
            return;
        }
        wrong++;
        if (wrong <= MOST_PRINTED) {
            System.out.println(test + ": " + call + " answered " + got + ", due is " + want + beside);
        }
    }

    void holds(String what, boolean is) {
        due(what, is ? 1 : 0, 1);
    }

    /** The first run has these steps and no more. */
    void stepsAre(String of, DepotNight x, int... steps) {
        for (int i = 0; i < steps.length; i++) {
            due(of + ": step(" + i + ")", x.step(i), steps[i]);
        }
        due(of + ": step(" + steps.length + ")", x.step(steps.length), DepotNight.NONE);
    }

    /** These units leave in the first run, and no more. */
    void leaversAre(String of, DepotNight x, int... units) {
        for (int i = 0; i < units.length; i++) {
            due(of + ": leaves(" + i + ")", x.leaves(i), units[i]);
        }
        due(of + ": leaves(" + units.length + ")", x.leaves(units.length), DepotNight.NONE);
    }

    boolean hasWrong() {
        return wrong > 0;
    }

    void end() {
        System.out.println(test + ": " + asDue + " as due, " + wrong + " not as due");
        if (wrong > 0) {
            System.exit(1);
        }
    }
}
