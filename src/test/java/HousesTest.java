/** Promises 27 to 31: seating, changes that two like, moves. */
public final class HousesTest {
    private static final Check CHECK = new Check("HousesTest");

    /**
     * a hears 6, 7 and 0, b 1 and 2, c 3 to 5. x and z are right from nobody's house, y is from house 0 and house 5,
     * but isn't from 2, where b is for whom it is.
     */
    private static final String THREE = "town houses 8 lips 0;person a house 0;person b house 2;person c house 5;"
        + "dead x late slip 2 for a;dead y late slip 6 for b;dead z early slip 3 for c";

    public static void main(String[] args) {
        seating();
        likes();
        moves();
        wrong();
        withoutTown();
        CHECK.end();
    }

    private static void seating() {
        SeanceStreet x = Check.townOf(THREE);
        CHECK.due("right(0)", x.right(0), 0);
        CHECK.due("seat(0)", x.seat(0), 1);
        CHECK.due("seatAt(0, 0), the first row of like ones", x.seatAt(0, 0), 0);
        CHECK.due("seatAt(1, 0)", x.seatAt(1, 0), 5);
        CHECK.due("seatAt(2, 0)", x.seatAt(2, 0), 2);
        CHECK.due("person(1, 0), nobody moves", x.person(1, 0), 2);
        // Nothing can be won: the houses by numbers, whoever is in them now.
        SeanceStreet none = Check.townOf("town houses 9 lips 0;person a house 8;person b house 4;person c house 6");
        CHECK.due("seat(0), no dead", none.seat(0), 0);
        CHECK.due("seatAt(0, 0)", none.seatAt(0, 0), 4);
        CHECK.due("seatAt(1, 0)", none.seatAt(1, 0), 6);
        CHECK.due("seatAt(2, 99)", none.seatAt(2, 99), 8);
        // A slip of 3 back is right where the house ahead is 4 or more away: at 5 alone. Both want it, a's two win.
        SeanceStreet two = Check.townOf("town houses 8 lips 0;person a house 1;person b house 5;person c house 0;"
            + "dead r early slip 3 for b;dead s early slip 3 for a;dead t early slip 3 for a");
        CHECK.due("seat(0)", two.seat(0), 2);
        CHECK.due("seatAt(0, 0)", two.seatAt(0, 0), 5);
        CHECK.due("seatAt(1, 0)", two.seatAt(1, 0), 0);
        CHECK.due("seatAt(2, 0)", two.seatAt(2, 0), 1);
        CHECK.due("likes(0, 1, 0), two for one", two.likes(0, 1, 0), 1);
    }

    private static void likes() {
        SeanceStreet x = Check.townOf(THREE);
        CHECK.due("likes(0, 1, 0)", x.likes(0, 1, 0), 1);
        CHECK.due("likes(1, 0, 0)", x.likes(1, 0, 0), 1);
        CHECK.due("likes(1, 2, 0)", x.likes(1, 2, 0), 1);
        CHECK.due("likes(0, 2, 0)", x.likes(0, 2, 0), 0);
        CHECK.due("restless(0)", x.restless(0), 2);
        CHECK.due("restless(0), pairs of no dead", Check.townOf(Towns.PAIR).restless(0), 0);
        // By a swing the nights differ: 6 on is 2 back in a ring of 8, and 6 back is 2 on.
        SeanceStreet swing = Check.townOf(THREE.replace("y late", "y swing"));
        CHECK.due("restless(98)", swing.restless(98), 2);
        CHECK.due("restless(1)", swing.restless(1), 0);
    }

    private static void moves() {
        SeanceStreet x = Check.townOf(THREE);
        CHECK.due("moveFor(0, 0)", x.moveFor(0, 0), 3);
        CHECK.due("moveFor(1, 0)", x.moveFor(1, 0), 1);
        CHECK.due("person(0, 0), he stays", x.person(0, 0), 0);
        CHECK.due("moveFor(0, 0), no house is free", Check.townOf(Towns.PAIR).moveFor(0, 0), -2);
        SeanceStreet alone = Check.townOf("town houses 9 lips 0;person a house 3;dead x late slip 4 for a");
        CHECK.due("moveFor(0, 0), no more than all", alone.moveFor(0, 0), -2);
        CHECK.due("trouble()", alone.trouble(), 0);
        // b hears 1 to where he is. z, at 5, is right with b at 1 to 4; y, by the mirror 2, with b at 2 and 3, or at 7 to 9.
        SeanceStreet most = Check.townOf("town houses 10 lips 0;person a house 0;person b house 5;"
            + "dead z late slip 5 for a;dead y late slip 0 for b;mirror y 2");
        CHECK.due("right(0)", most.right(0), 0);
        CHECK.due("moveFor(1, 0), not the first that is more", most.moveFor(1, 0), 2);
    }

    private static void wrong() {
        SeanceStreet x = Check.townOf(THREE);
        CHECK.refused(x, "seat(100)", x.seat(100), -1, 2);
        CHECK.refused(x, "seat(-1)", x.seat(-1), -1, 2);
        CHECK.refused(x, "seatAt(3, 0)", x.seatAt(3, 0), -1, 1);
        CHECK.refused(x, "seatAt(0, 100)", x.seatAt(0, 100), -1, 2);
        CHECK.refused(x, "likes(0, 0, 0)", x.likes(0, 0, 0), -1, 1);
        CHECK.refused(x, "likes(0, 0, 100)", x.likes(0, 0, 100), -1, 1);
        CHECK.refused(x, "likes(0, 3, 0)", x.likes(0, 3, 0), -1, 1);
        CHECK.refused(x, "likes(-1, 0, 0)", x.likes(-1, 0, 0), -1, 1);
        CHECK.refused(x, "likes(0, 1, 100)", x.likes(0, 1, 100), -1, 2);
        CHECK.refused(x, "restless(100)", x.restless(100), -1, 2);
        CHECK.refused(x, "moveFor(3, 0)", x.moveFor(3, 0), -1, 1);
        CHECK.refused(x, "moveFor(0, -1)", x.moveFor(0, -1), -1, 2);
    }

    private static void withoutTown() {
        SeanceStreet x = new SeanceStreet();
        CHECK.refused(x, "seat(0)", x.seat(0), -1, 1);
        CHECK.refused(x, "seatAt(0, 0)", x.seatAt(0, 0), -1, 1);
        CHECK.refused(x, "likes(0, 1, 0)", x.likes(0, 1, 0), -1, 1);
        CHECK.refused(x, "restless(0)", x.restless(0), -1, 1);
        CHECK.refused(x, "moveFor(0, 0)", x.moveFor(0, 0), -1, 1);
    }
}
