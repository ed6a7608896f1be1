/** Crossings of two phases whose lights were started, one for each way that the lights may be then. */
enum Started {
    CHANGING, ON, FLASHING, STOPPED;

    Intergreen make() {
        Intergreen x = Crossings.two();
        x.arrive(0, 2);
        x.start(0);
        x.go(3);
        switch (this) {
            case CHANGING:
                x.press(1);
                x.go(4);
                break;
            case FLASHING:
                x.breaks(1, Intergreen.RED, true);
                x.go(1);
                break;
            case STOPPED:
                x.stop();
                break;
            default:
                break;
        }
        return x;
    }
}
