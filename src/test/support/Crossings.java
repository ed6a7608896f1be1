/** Crossings that several tests begin with. */
final class Crossings {
    private Crossings() {
    }

    /** Two phases that meet, each with a stage of its own. */
    static Intergreen two() {
        Intergreen x = new Intergreen();
        x.phase(5, 20, 2);
        x.phase(4, 10, 0);
        x.meet(0, 1, 4, 6);
        x.stage(1);
        x.stage(2);
        return x;
    }
}
