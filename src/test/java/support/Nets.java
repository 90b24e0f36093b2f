/** Small networks that several tests begin with. */
final class Nets {
    private Nets() {
    }

    /** Links 0 and 1 with 100 and 60; flow 0 over both, 1 over 0, 2 (weight 2) over 1. Levels 20, 80, 20. */
    static FairRates three() {
        FairRates x = new FairRates();
        x.link(0, 100);
        x.link(1, 60);
        x.come(7, 3, 1, 0, 1000);
        x.come(8, 1, 1, 0, 1000);
        x.come(9, 2, 2, 0, 1000);
        return x;
    }

    /**
     * Six flows that are FIXED in four steps: 5 by its own level (5), 3 and 4 by link 2 (6), 0 and 2 by
     * link 1 (20), 1 by link 0 (68). Flow 4 has its LEAST, 12; link 1 has 2 left and link 3 has 990.
     */
    static FairRates six() {
        FairRates x = new FairRates();
        x.link(0, 100);
        x.link(1, 62);
        x.link(2, 30);
        x.link(3, 1000);
        x.come(10, 3, 1, 0, 1000);
        x.come(11, 1, 1, 0, 1000);
        x.come(12, 2, 2, 0, 1000);
        x.come(13, 4, 3, 0, 20);
        x.come(14, 5, 1, 12, 40);
        x.come(15, 8, 2, 0, 11);
        return x;
    }

    /** Rounds of letters here never come to rest. */
    static FairRates restless() {
        FairRates x = new FairRates();
        x.link(0, 3);
        x.link(2, 8);
        x.link(3, 7);
        x.link(4, 9);
        x.come(0, 14, 1, 0, 10);
        x.come(1, 18, 7, 0, 9);
        x.come(2, 17, 5, 0, 5);
        x.come(3, 27, 7, 0, 3);
        x.come(4, 24, 9, 0, 1000);
        return x;
    }

    /** As many flows as there can be, all over link 0 with 100. */
    static FairRates full() {
        FairRates x = new FairRates();
        x.link(0, 100);
        for (int n = 0; n < 20; n++) {
            x.come(n, 1, 1, 0, 1000);
        }
        return x;
    }
}
