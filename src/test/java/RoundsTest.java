/** Promises 19 to 22: changes and rounds. */
final class RoundsTest {
    private static final int MAX = Integer.MAX_VALUE;

    private RoundsTest() {
    }

    public static void main(String[] args) {
        promise19();
        promise19SharedPhases();
        promises20To22();
        orderMatters();
        lowerStageFirst();
        oneAndTwoStages();
        sixStages();
        greatestLeast();
        toldLater();
        eachAskedAlone();
        Check.end();
    }

    private static Intergreen row(int... leasts) {
        Intergreen x = new Intergreen();
        for (int least : leasts) {
            x.phase(least, 100, 0);
        }
        return x;
    }

    private static void promise19() {
        Intergreen x = row(1, 1, 1, 1);
        x.meet(0, 2, 3, 13);
        x.meet(0, 3, 5, 11);
        x.meet(1, 2, 4, 17);
        x.stage(3);
        x.stage(12);
        x.stage(2);
        Check.bounds("from -1", () -> x.change(-1, 0));
        Check.bounds("from 3", () -> x.change(3, 0));
        Check.bounds("to -1", () -> x.change(0, -1));
        Check.bounds("to 3", () -> x.change(0, 3));
        Check.bounds("to MAX", () -> x.change(0, MAX));
        Check.bounds("the same, not there", () -> x.change(3, 3));
        Check.same("the most of 3, 5, 4", x.change(0, 1), 5);
        Check.same("the most of 13, 11, 17", x.change(1, 0), 17);
        Check.same("1 to 2", x.change(2, 1), 4);
        Check.same("2 to 1", x.change(1, 2), 17);
        Check.same("the same", x.change(0, 0), 0);
        Check.same("one that has less", x.change(0, 2), 0);
        Check.same("one that has more", x.change(2, 0), 0);
        x.start(0);
        x.go(10);
        Check.same("started, all the same", x.change(0, 1), 5);
    }

    private static void promise19SharedPhases() {
        Intergreen x = row(1, 1, 1, 1);
        x.meet(1, 2, 2, 3);
        x.meet(0, 3, 20, 20);
        x.stage(3);
        x.stage(5);
        Check.same("0 is in both", x.change(0, 1), 2);
        Check.same("0 is in both", x.change(1, 0), 3);
    }

    private static void promises20To22() {
        Intergreen x = row(5, 4);
        Check.same("no stages", x.round(), Intergreen.NONE);
        Check.same("no stages", x.roundAnew(), Intergreen.NONE);
        Check.bounds("no stages", () -> x.inRound(0));
        x.meet(0, 1, 4, 6);
        x.stage(1);
        x.stage(2);
        Check.same("5 + 4 + 4 + 6", x.round(), 19);
        Check.same("5 + 4 + 4 + 6", x.roundAnew(), 19);
        Check.bounds("inRound(-1)", () -> x.inRound(-1));
        Check.bounds("inRound(2)", () -> x.inRound(2));
        Check.bounds("inRound(MAX)", () -> x.inRound(MAX));
        Check.round(x, 19, 0, 1);
    }

    private static void orderMatters() {
        Check.round(new int[][] {{0, 9, 9, 1}, {1, 0, 9, 9}, {9, 1, 0, 9}, {9, 9, 1, 0}}, 8, 0, 3, 2, 1);
        Check.round(new int[][] {{0, 9, 1, 9}, {9, 0, 9, 1}, {9, 1, 0, 9}, {1, 9, 9, 0}}, 8, 0, 2, 1, 3);
        Check.round(new int[][] {{0, 1, 1, 9}, {9, 0, 9, 1}, {9, 1, 0, 9}, {20, 9, 9, 0}}, 24, 0, 1, 3, 2);
    }

    private static void lowerStageFirst() {
        Check.round(new int[][] {{0, 5, 5, 5}, {5, 0, 5, 5}, {5, 5, 0, 5}, {5, 5, 5, 0}}, 24, 0, 1, 2, 3);
        Check.round(new int[][] {{0, 2, 2}, {2, 0, 2}, {2, 2, 0}}, 9, 0, 1, 2);
        Check.round(new int[][] {{0, 3, 3, 3}, {3, 0, 9, 3}, {3, 3, 0, 3}, {3, 3, 3, 0}}, 16, 0, 1, 3, 2);
        Check.round(new int[][] {{0, 9, 3, 3}, {3, 0, 3, 3}, {3, 3, 0, 3}, {3, 3, 3, 0}}, 16, 0, 2, 1, 3);
    }

    private static void oneAndTwoStages() {
        Intergreen one = row(7);
        one.stage(1);
        Check.round(one, 7, 0);
        Intergreen twice = row(7);
        twice.stage(1);
        twice.stage(1);
        Check.round(twice, 14, 0, 1);
    }

    private static void sixStages() {
        int[][] seconds = new int[6][6];
        int[] row = {0, 4, 2, 5, 1, 3};
        for (int[] from : seconds) {
            java.util.Arrays.fill(from, 7);
        }
        for (int place = 0; place < 6; place++) {
            seconds[row[place]][row[(place + 1) % 6]] = 2;
        }
        Check.round(seconds, 18, row);
        seconds[5][1] = 20;
        Check.round(seconds, 33, 0, 1, 3, 4, 2, 5);
    }

    private static void greatestLeast() {
        Intergreen x = row(3, 30, 8, 1);
        x.stage(9);
        x.stage(15);
        x.stage(4);
        Check.round(x, 3 + 30 + 8, 0, 1, 2);
    }

    private static void toldLater() {
        Intergreen x = row(2, 3, 4);
        x.stage(1);
        x.stage(2);
        Check.round(x, 5, 0, 1);
        x.meet(0, 1, 6, 7);
        Check.round(x, 18, 0, 1);
        x.stage(4);
        Check.round(x, 15, 0, 1, 2);
        x.meet(1, 2, 1, 9);
        Check.round(x, 2 + 3 + 4 + 6 + 1, 0, 1, 2);
        x.meet(0, 1, 20, 1);
        Check.round(x, 2 + 3 + 4 + 9 + 1, 0, 2, 1);
        x.start(0);
        x.go(10);
        Check.round(x, 2 + 3 + 4 + 9 + 1, 0, 2, 1);
    }

    /** No answer leans on another one that was asked before. */
    private static void eachAskedAlone() {
        int[][] seconds = {{0, 9, 9, 1}, {1, 0, 9, 9}, {9, 1, 0, 9}, {9, 9, 1, 0}};
        Check.same("inRound alone", Crossings.between(seconds).inRound(1), 3);
        Check.same("roundAnew alone", Crossings.between(seconds).roundAnew(), 8);
        Check.same("round alone", Crossings.between(seconds).round(), 8);
        Intergreen x = row(1, 1, 1);
        x.stage(1);
        x.stage(2);
        x.stage(4);
        Check.same("nobody meets", x.inRound(1), 1);
        x.meet(0, 1, 5, 5);
        x.meet(1, 2, 5, 1);
        Check.same("inRound, told more", x.inRound(1), 2);
        x.meet(0, 2, 20, 1);
        Check.same("roundAnew, told more", x.roundAnew(), 3 + 5 + 5 + 1);
        x.meet(0, 2, 1, 20);
        Check.same("round, told more", x.round(), 3 + 1 + 1 + 5);
        Check.same("inRound, told more", x.inRound(2), 1);
    }
}
