/** The boundary cases of promise 18: "found from the log alone". */
final class EdgesOfSeenTest {
    private EdgesOfSeenTest() {
    }

    public static void main(String[] args) {
        noSuchSecond();
        noneLies();
        neitherIsCounted();
        aheadOfThatSecond();
        aGreenThatGoesOn();
        notInTheSecondBefore();
        inTheSecond0();
        betweenTheFirstAndTheLast();
        theLatestAheadOfIt();
        theLeastOfSeveral();
        brokenGreenIsNoneInTheLog();
        eachTwoOfEight();
        Check.end();
    }

    /** Two phases whose logs are told: G for one that shows GREEN, any other sign for one that does not. */
    private static Intergreen logged(String one, String other) {
        Intergreen x = Crossings.phases(2, 1, 120, 0);
        x.stage(3);
        x.start(0);
        for (int second = 0; second < one.length(); second++) {
            x.breaks(0, Intergreen.GREEN, one.charAt(second) != 'G');
            x.breaks(1, Intergreen.GREEN, other.charAt(second) != 'G');
            x.go(1);
        }
        return x;
    }

    private static void isSeen(String one, String other, int due) {
        Intergreen x = logged(one, other);
        Check.text("the one", Crossings.shown(x, 0), one);
        Check.text("the other", Crossings.shown(x, 1), other);
        Check.same("seen of " + one + " and " + other, x.seen(0, 1), due);
    }

    /** "NONE if there was no such second"; "a second ahead of which the one never showed GREEN does not count" */
    private static void noSuchSecond() {
        isSeen("", "", Intergreen.NONE);
        isSeen("---", "---", Intergreen.NONE);
        isSeen("GG-", "---", Intergreen.NONE);
        isSeen("---", "-GG", Intergreen.NONE);
        isSeen("--G", "-G-", Intergreen.NONE);
        isSeen("-G", "-G", Intergreen.NONE);
    }

    private static void noneLies() {
        isSeen("G-", "-G", 0);
        isSeen("GG-", "--G", 0);
    }

    private static void neitherIsCounted() {
        isSeen("G--", "--G", 1);
        isSeen("G---", "---G", 2);
        isSeen("G----------", "----------G", 9);
    }

    /** "the latest second ahead of it": the very second is not ahead of it. */
    private static void aheadOfThatSecond() {
        isSeen("G--G", "---G", 2);
        isSeen("-GG", "--G", 0);
    }

    private static void aGreenThatGoesOn() {
        isSeen("GGG", "-GG", 0);
        isSeen("GGGGG", "--GGG", 0);
    }

    /** "showed GREEN, and did not in the second before" */
    private static void notInTheSecondBefore() {
        isSeen("-G---", "G-GGG", 0);
        isSeen("-G---", "GGGGG", Intergreen.NONE);
        isSeen("G----", "--GG-", 1);
        isSeen("G-----", "--GG-G", 1);
    }

    /** "or in the second 0": ahead of which there is none. */
    private static void inTheSecond0() {
        isSeen("G", "G", Intergreen.NONE);
        isSeen("-G", "G-", Intergreen.NONE);
        isSeen("GG", "GG", Intergreen.NONE);
        isSeen("G--", "G-G", 1);
    }

    private static void betweenTheFirstAndTheLast() {
        Intergreen x = Crossings.alone(2, 1, 120, 0);
        x.start(0);
        x.go(1);
        x.stop();
        Crossings.goAllBut(x, 1);
        Check.same("not yet", x.seen(0, 1), Intergreen.NONE);
        x.start(1);
        x.go(1);
        Check.same("from the second 0 to 4999", x.seen(0, 1), 4998);
        Check.same("the other way", x.seen(1, 0), Intergreen.NONE);
    }

    private static void theLatestAheadOfIt() {
        isSeen("G-G-G---", "-------G", 2);
        isSeen("GGGGG--G", "------G-", 1);
    }

    /** "the least number of seconds that were ever seen": the first, one in the midst, the last; longer by one. */
    private static void theLeastOfSeveral() {
        isSeen("G---G----G-----", "--G------G----G", 1);
        isSeen("G----G--G------", "----G--G------G", 1);
        isSeen("G-----G----G---", "-----G----G---G", 2);
        isSeen("G---G---", "---G---G", 2);
    }

    /** "found from the log alone" */
    private static void brokenGreenIsNoneInTheLog() {
        Intergreen x = logged("G-", "-G");
        Check.same("both are GREEN all the while", x.ofPhase(0, 1), 2);
        Check.same("both are GREEN all the while", x.ofPhase(1, 1), 2);
        Check.same("seen", x.seen(0, 1), 0);
        x.breaks(0, Intergreen.GREEN, false);
        x.go(1);
        Check.same("the other way", x.seen(1, 0), 0);
    }

    private static void eachTwoOfEight() {
        for (int one = 0; one < 8; one++) {
            for (int other = 0; other < 8; other++) {
                if (one != other) {
                    Intergreen x = Crossings.phases(8, 1, 9, 0);
                    x.meet(one, other, 6, 9);
                    x.stage(1 << one);
                    x.stage(1 << other);
                    x.start(0);
                    x.ask(other);
                    x.go(8);
                    Check.same("from " + one + " to " + other, x.seen(one, other), 6);
                    Check.same("from " + other + " to " + one, x.seen(other, one), Intergreen.NONE);
                }
            }
        }
    }
}
