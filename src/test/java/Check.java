/** Counts and prints the answers that are not as due. */
final class Check {
    private int looked = 0;
    private int wrong = 0;
    private int sentences = 0;
    private String sentence = "";

    void due(String what, long got, long want) {
        looked++;
        if (got != want) {
            wrong++;
            System.out.println(sentence + what + ": answered " + got + ", due is " + want);
        }
    }

    /** The test of one sentence: it fails, too, if a call throws or if it looks at no answer. */
    void sentence(String words, Runnable test) {
        sentence = "[" + words + "] ";
        sentences++;
        int before = looked;
        int thrown = 0;
        try {
            test.run();
        } catch (RuntimeException e) {
            System.out.println(sentence + e);
            thrown = 1;
        }
        due("calls that throw", thrown, 0);
        due("looks at answers", looked > before + 1 ? 1 : 0, 1);
        sentence = "";
    }

    /** A run, and what can be seen of it. */
    void run(String what, RangeGuard g, int ending, int place, int worked) {
        due(what + ": run", g.run(), ending);
        lastRun(what, g, ending, place, worked);
    }

    void lastRun(String what, RangeGuard g, int ending, int place, int worked) {
        due(what + ": ending", g.ending(), ending);
        due(what + ": place", g.place(), place);
        due(what + ": worked", g.worked(), worked);
    }

    void variables(String what, RangeGuard g, int... want) {
        for (int x = 0; x < 4; x++) {
            due(what + ": variable " + x, g.variable(x), want[x]);
        }
    }

    void cells(String what, RangeGuard g, int... want) {
        for (int i = 0; i < 8; i++) {
            due(what + ": cell " + i, g.cell(i), want[i]);
        }
    }

    void end() {
        String told = sentences == 0 ? "" : sentences + " sentences, ";
        System.out.println(told + looked + " answers, " + wrong + " not as due");
        if (wrong != 0 || looked == 0) {
            System.exit(1);
        }
    }
}
