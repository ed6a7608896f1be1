/** Crossings that several tests begin with, and how they are looked at. */
final class Crossings {
    private static final String LETTERS = "RGA-";

    private Crossings() {
    }

    /** Two phases that meet, each with a stage of its own. */
    static Intergreen two() {
        Intergreen x = new Intergreen();
        x.phase(5, 20, 2);
        x.phase(4, 10, 0);
        x.meet(0, 1, 4, 6);
        x.stage(1);
        x.stage(2);
        return x;
    }

    /** So many phases, no two of which meet, each alone in the stage of its number, if there may be so many. */
    static Intergreen alone(int count, int least, int most, int gap) {
        Intergreen x = phases(count, least, most, gap);
        for (int number = 0; number < count && number < 6; number++) {
            x.stage(1 << number);
        }
        return x;
    }

    /** So many phases, no two of which meet, and no stage. */
    static Intergreen phases(int count, int least, int most, int gap) {
        Intergreen x = new Intergreen();
        for (int number = 0; number < count; number++) {
            x.phase(least, most, gap);
        }
        return x;
    }

    /** Each phase alone in a stage; from the row's number to the column's so many seconds, 0 if they do not meet. */
    static Intergreen between(int[][] seconds) {
        Intergreen x = Crossings.alone(seconds.length, 1, 1, 0);
        for (int one = 0; one < seconds.length; one++) {
            for (int other = 0; other < one; other++) {
                if (seconds[one][other] > 0) {
                    x.meet(one, other, seconds[one][other], seconds[other][one]);
                }
            }
        }
        return x;
    }

    /** All that there may be: 8 phases, 6 stages, and a queue of 1000 at the phase 0. */
    static Intergreen full() {
        Intergreen x = phases(8, 3, 9, 1);
        x.meet(0, 7, 1, 20);
        x.meet(3, 2, 5, 6);
        for (int set : new int[] {0x01, 0x80, 0x06, 0x08, 0x70, 0x73}) {
            x.stage(set);
        }
        fill(x, 0);
        return x;
    }

    static void fill(Intergreen x, int phase) {
        for (int times = 0; times < 20; times++) {
            x.arrive(phase, 50);
        }
    }

    /** Lets all seconds go by but so many. */
    static void goAllBut(Intergreen x, int seconds) {
        int left = 5000 - x.of(2) - seconds;
        while (left > 0) {
            int some = Math.min(left, 1000);
            x.go(some);
            left -= some;
        }
    }

    /** What a phase showed from its first second on up to that of now: R, G, A, and - for DARK. */
    static String shown(Intergreen x, int phase) {
        return shown(x, phase, 0);
    }

    static String shown(Intergreen x, int phase, int from) {
        StringBuilder told = new StringBuilder();
        for (int second = from; second < x.of(2); second++) {
            told.append(LETTERS.charAt(x.lamp(phase, second)));
        }
        return told.toString();
    }

    static void stands(String told, Intergreen x, int mode, int stage) {
        Check.same(told + ": mode", x.of(0), mode);
        Check.same(told + ": stage", x.of(1), stage);
    }
}
