/** Compares answers with those that are due; a test's main ends with end(). */
final class Check {
    private static int checked = 0;
    private static int wrong = 0;

    private Check() {
    }

    interface Call {
        void run();
    }

    static void same(String call, double got, double due) {
        checked++;
        if (got != due) {
            fail(call + " answered " + got + ", due is " + due);
        }
    }

    static void same(String call, boolean got, boolean due) {
        same(call, got ? 1 : 0, due ? 1 : 0);
    }

    /** Texts of lines: the first line that differs is told. */
    static void text(String call, String got, String due) {
        checked++;
        if (!got.equals(due)) {
            String[] gotLines = got.split("\n");
            String[] dueLines = due.split("\n");
            int line = 0;
            while (line < gotLines.length - 1 && line < dueLines.length - 1
                && gotLines[line].equals(dueLines[line])) {
                line++;
            }
            fail(call + " answered '" + gotLines[line] + "', due is '" + dueLines[line] + "'");
        }
    }

    /** The shortest round: how long it takes, by both ways to find it, and its stages, all of them. */
    static void round(Intergreen x, int seconds, int... stages) {
        same("round", x.round(), seconds);
        same("roundAnew", x.roundAnew(), seconds);
        for (int place = 0; place < stages.length; place++) {
            same("inRound(" + place + ")", x.inRound(place), stages[place]);
        }
        bounds("inRound, behind the last", () -> x.inRound(stages.length));
    }

    /** The same for seconds between, as Crossings.between tells them. */
    static void round(int[][] between, int seconds, int... stages) {
        round(Crossings.between(between), seconds, stages);
    }

    static void bounds(String call, Call run) {
        refused(call, IndexOutOfBoundsException.class, run);
    }

    static void argument(String call, Call run) {
        refused(call, IllegalArgumentException.class, run);
    }

    static void state(String call, Call run) {
        refused(call, IllegalStateException.class, run);
    }

    /** The very class is due: a subclass would be one that the machine throws. */
    static void refused(String call, Class<?> due, Call run) {
        checked++;
        try {
            run.run();
        } catch (RuntimeException thrown) {
            if (thrown.getClass() != due) {
                fail(call + " threw " + thrown + ", due is " + due.getName());
            }
            return;
        }
        fail(call + " threw nothing, due is " + due.getName());
    }

    static void fail(String told) {
        wrong++;
        System.out.println(told);
    }

    static void end() {
        System.out.println(checked + " answers looked at, " + wrong + " wrong");
        if (wrong != 0 || checked == 0) {
            System.exit(1);
        }
    }
}
