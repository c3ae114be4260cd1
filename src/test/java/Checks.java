import java.util.function.ToIntFunction;

/** Counts and prints the answers that are not as due. A test that makes one must be at its end before its clock. */
final class Checks {
    static final int LEAST = Integer.MIN_VALUE;
    static final int GREATEST = Integer.MAX_VALUE;

    private static final int MOST_SECONDS = 300;
    private static final int MOST_PRINTED = 100;

    private final Clock clock = new Clock("the test", MOST_SECONDS);
    private String sentence = "";
    private int sentences = 0;
    private long looks = 0;
    private int wrong = 0;

    /** Runs the test of one sentence of the document; whatever is wrong in it is printed with the sentence. */
    void sentence(String where, String words, Runnable test) {
        sentence = where + " '" + words + "': ";
        sentences++;
        long before = looks;
        test.run();
        due("looks at an answer", looks > before ? 1 : 0, 1);
        sentence = "";
    }

    void due(String call, int got, int want) {
        looks++;
        if (got != want) {
            wrong++;
            if (wrong <= MOST_PRINTED) {
                System.out.println(sentence + call + " answered " + got + ", due is " + want);
            }
        }
    }

    /** Steps once for each answer that is due. */
    void steps(ControllableTime x, int... answers) {
        for (int k = 0; k < answers.length; k++) {
            due("step() " + k, x.step(), answers[k]);
        }
    }

    /** The times of the events 0, 1, .. that are due. */
    void times(ControllableTime x, int... want) {
        for (int e = 0; e < want.length; e++) {
            due("timeOf(" + e + ")", x.timeOf(e), want[e]);
        }
    }

    void stateAndNow(String when, ControllableTime x, int state, int now) {
        due(when + ": state()", x.state(), state);
        due(when + ": now()", x.now(), now);
    }

    /** Compares all getters of an object, in and around their ranges, with those of an object made to be like it. */
    void sameFace(String when, ControllableTime got, ControllableTime want) {
        due(when + ": state()", got.state(), want.state());
        due(when + ": now()", got.now(), want.now());
        for (int e = -1; e <= 6; e++) {
            due(when + ": timeOf(" + e + ")", got.timeOf(e), want.timeOf(e));
            sameLinks(when, got, want, e);
        }
    }

    private void sameLinks(String when, ControllableTime got, ControllableTime want, int e) {
        due(when + ": policyOf(" + e + ")", got.policyOf(e), want.policyOf(e));
        for (int field = -1; field <= 3; field++) {
            due(when + ": linkOf(" + e + ", " + field + ")", got.linkOf(e, field), want.linkOf(e, field));
        }
        for (int v = -1; v <= 6; v++) {
            due(when + ": limit(" + e + ", " + v + ")", got.limit(e, v), want.limit(e, v));
        }
    }

    /** The call has the answer that is due and changes nothing that a getter or a later call shows. */
    void changesNothing(String call, Situation from, int answer, ToIntFunction<ControllableTime> made) {
        String when = call + " " + from;
        for (int way = 0; way < Twins.WAYS; way++) {
            Twins twins = new Twins(this, when, from.make(), from.make());
            twins.oneOnly(answer, made);
            twins.later(way);
        }
    }

    /** Ends the test, with exit code 1 if an answer was wrong. */
    void finish() {
        clock.stop();
        if (sentences > 0) {
            System.out.println("sentences of the document: " + sentences);
        }
        System.out.println(wrong == 0 ? "all answers are as due" : wrong + " answers are not as due");
        if (wrong != 0) {
            System.exit(1);
        }
    }
}
