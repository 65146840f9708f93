/** Towns that several tests ask about. */
final class Towns {
    /**
     * House 11 and 0 are heard by ann (0), 1 to 3 by bob (1), 4 to 7 by cid (2), 8 to 10 by dan (3). Comes out:
     * u (0) at 4; v (1) at 1, by the mirror 11; w (2) at 7 and 5 more each night; x (3) at 1, by the mirror 1, in even
     * nights, at 7, by the mirror 7, in odd ones; y (4) at 0.
     */
    static final String FOUR = "town houses 12 lips 25;person ann house 0;person bob house 3;person cid house 7;"
        + "person dan house 10;dead u late slip 4 for ann;dead v early slip 2 for bob;dead w drift slip 5 for cid;"
        + "dead x swing slip 3 for dan;dead y late slip 0 for ann;mirror v 6;mirror x 1";

    /** No dead, and no house without somebody. */
    static final String PAIR = "town houses 2 lips 10;person a house 1;person b house 0";

    private Towns() {
    }
}
