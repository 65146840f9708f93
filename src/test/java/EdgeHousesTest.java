/** Promises 27 to 36, SEATING, CHANGE, BRING and RING, at their bounds, a method for each sentence that names one. */
public final class EdgeHousesTest {
    private static final Check CHECK = new Check("EdgeHousesTest");

    public static void main(String[] args) {
        seatOfNobody();
        seatOfAll();
        likeSeatings();
        whoIsAlone();
        seatingAnew();
        aimAtWherePeopleAre();
        noMoreIsNotLiked();
        restless();
        noHouseToMoveTo();
        byNoneMore();
        moveToTheFirst();
        noStepsIfThereAreNone();
        eitherWayRound();
        whereverItEnds();
        bringingAnew();
        fewestFrom();
        steps();
        ringOfOne();
        ringOfSix();
        noRing();
        ringAt();
        CHECK.end();
    }

    private static void seatOfNobody() {
        CHECK.by("27: SEATING: how many sayings are RIGHT (no dead)");
        SeanceStreet x = Check.townOf(Towns.PAIR);
        CHECK.due("seat(0)", x.seat(0), 0);
        CHECK.due("seat(99)", x.seat(99), 0);
        CHECK.due("trouble()", x.trouble(), 0);
        CHECK.due("seatAt(0, 0)", x.seatAt(0, 0), 0);
        CHECK.due("seatAt(1, 0)", x.seatAt(1, 0), 1);
        CHECK.due("person(0, 0), he stays", x.person(0, 0), 1);
    }

    private static void seatOfAll() {
        CHECK.by("III: SEATING: people change houses among each other, so that most sayings are RIGHT (six of six)");
        SeanceStreet x = Check.townOf(Texts.people(40, 0, 6) + Texts.dead(6, "late", 0, "pf"));
        CHECK.due("seat(0), six", x.seat(0), 6);
        for (int p = 0; p < 6; p++) {
            CHECK.due("seatAt(" + p + ", 0)", x.seatAt(p, 0), p);
        }
        // 2 back of 40 is right only where no house of the two ahead is taken, that is at 0.
        SeanceStreet one = Check.townOf(Texts.people(40, 0, 6) + Texts.dead(6, "early", 2, "pf"));
        CHECK.due("right(0)", one.right(0), 0);
        CHECK.due("seat(0), six, in another house", one.seat(0), 6);
        int[] due = {1, 2, 3, 4, 5, 0};
        for (int p = 0; p < 6; p++) {
            CHECK.due("seatAt(" + p + ", 0)", one.seatAt(p, 0), due[p]);
        }
        SeanceStreet none = Check.townOf(Texts.people(6, 0, 6) + Texts.dead(6, "late", 1, "pf"));
        CHECK.due("seat(0), a slip in a full ring", none.seat(0), 0);
    }

    private static void likeSeatings() {
        CHECK.by("III: of like ones the first row of houses, person by person, by numbers");
        SeanceStreet x = Check.townOf("town houses 40 lips 0;person a house 39;person b house 20;person c house 0;"
            + "person d house 10;person e house 30;person f house 5");
        int[] due = {0, 5, 10, 20, 30, 39};
        for (int p = 0; p < 6; p++) {
            CHECK.due("seatAt(" + p + ", 0), all alike", x.seatAt(p, 0), due[p]);
        }
        // 1 back is right but in house 1, behind that of another: c has it, and a the first of the two others.
        SeanceStreet three = Check.townOf("town houses 9 lips 0;person a house 1;person b house 0;person c house 4;"
            + "dead x early slip 1 for a;dead y early slip 1 for b");
        CHECK.due("seat(0)", three.seat(0), 2);
        CHECK.due("seatAt(0, 0)", three.seatAt(0, 0), 0);
        CHECK.due("seatAt(1, 0)", three.seatAt(1, 0), 4);
        CHECK.due("seatAt(2, 0)", three.seatAt(2, 0), 1);
    }

    private static void whoIsAlone() {
        CHECK.by("28: The house of a person by it (one person alone)");
        SeanceStreet x = Check.townOf("town houses 40 lips 0;person a house 39;dead x late slip 39 for a");
        CHECK.due("seatAt(0, 99)", x.seatAt(0, 99), 39);
        CHECK.due("seat(99)", x.seat(99), 1);
        CHECK.due("restless(99)", x.restless(99), 0);
        CHECK.due("moveFor(0, 99)", x.moveFor(0, 99), -2);
        CHECK.due("trouble()", x.trouble(), 0);
        x.move(0, 0);
        CHECK.due("seatAt(0, 99), of the houses NOW", x.seatAt(0, 99), 0);
    }

    private static void seatingAnew() {
        CHECK.by("27, 28: SEATING, of the night that is asked and the TOWN that is, whatever was asked before");
        // 1 back is right in house 0 alone; on odd nights it is 1 on, right in no house.
        String swing = Texts.people(6, 0, 5) + ";dead da swing slip 5 for pe";
        SeanceStreet x = Check.townOf(swing);
        CHECK.due("seatAt(4, 0), asked first", x.seatAt(4, 0), 0);
        CHECK.due("seatAt(4, 1)", x.seatAt(4, 1), 4);
        CHECK.due("seatAt(3, 0)", x.seatAt(3, 0), 4);
        CHECK.due("seat(0)", x.seat(0), 1);
        CHECK.due("seat(1)", x.seat(1), 0);
        SeanceStreet six = Check.townOf(Texts.people(40, 0, 6) + Texts.dead(6, "late", 0, "pf"));
        CHECK.due("seat(0), six people", six.seat(0), 6);
        for (int people = 5; people >= 1; people--) {
            Check.tell(six, Texts.people(40, 0, people) + ";dead x late slip 0 for pa");
            CHECK.due("seat(0), fewer people", six.seat(0), 1);
            CHECK.due("seatAt(0, 0)", six.seatAt(0, 0), 0);
        }
    }

    private static void aimAtWherePeopleAre() {
        CHECK.by("III: (the dead aim at where people are then)");
        SeanceStreet x = Check.townOf("town houses 5 lips 0;person a house 0;person b house 1;person c house 3;"
            + "dead x early slip 1 for a");
        CHECK.due("right(0), at 4, heard in 0", x.right(0), 1);
        CHECK.due("seat(0)", x.seat(0), 1);
        CHECK.due("likes(0, 1, 0), from 1 it is at 0", x.likes(0, 1, 0), 0);
        CHECK.due("likes(0, 2, 0), from 3 it is at 2, his still", x.likes(0, 2, 0), 0);
        SeanceStreet y = Check.townOf("town houses 5 lips 0;person a house 1;person b house 0;person c house 3;"
            + "dead x early slip 1 for a");
        CHECK.due("right(0), at 0, heard by b", y.right(0), 0);
        CHECK.due("likes(0, 1, 0), from 0 it is at 4, his then", y.likes(0, 1, 0), 1);
        CHECK.due("likes(0, 2, 0), from 3 it is at 2, his then", y.likes(0, 2, 0), 1);
        CHECK.due("likes(1, 2, 0), for whom nobody speaks", y.likes(1, 2, 0), 0);
        CHECK.due("restless(0)", y.restless(0), 2);
    }

    private static void noMoreIsNotLiked() {
        CHECK.by("III: they LIKE it if more sayings for the two of them together are RIGHT then");
        // 1 back is right but in house 1. Each has one: the change takes from the one what it gives the other.
        SeanceStreet even = Check.townOf("town houses 9 lips 0;person a house 1;person b house 0;"
            + "dead x early slip 1 for a;dead y early slip 1 for b");
        CHECK.due("right(0)", even.right(0), 2);
        CHECK.due("likes(0, 1, 0), one for one", even.likes(0, 1, 0), 0);
        CHECK.due("likes(1, 0, 0)", even.likes(1, 0, 0), 0);
        SeanceStreet more = Check.townOf("town houses 9 lips 0;person a house 1;person b house 0;person c house 5;"
            + "dead x early slip 1 for a;dead y early slip 1 for b;dead z early slip 1 for a");
        CHECK.due("right(0)", more.right(0), 2);
        CHECK.due("likes(0, 1, 0), two for one", more.likes(0, 1, 0), 1);
        CHECK.due("likes(1, 0, 0), the same two", more.likes(1, 0, 0), 1);
        CHECK.due("likes(2, 0, 0), none for two", more.likes(2, 0, 0), 1);
        CHECK.due("likes(0, 2, 0), two for none", more.likes(0, 2, 0), 1);
        CHECK.due("likes(1, 2, 0), one for one", more.likes(1, 2, 0), 0);
        CHECK.due("restless(0)", more.restless(0), 2);
        CHECK.by("29: NONE: 1 (unlike)");
        for (int p = 0; p < 3; p++) {
            CHECK.refused(more, "likes(" + p + ", " + p + ", 0)", more.likes(p, p, 0), -1, 1);
        }
    }

    private static void restless() {
        CHECK.by("30: How many pairs of people LIKE it");
        CHECK.due("restless(0), no dead", Check.townOf(Texts.people(6, 0, 6)).restless(0), 0);
        CHECK.due("restless(99), one person", Check.townOf(Texts.people(6, 0, 1)).restless(99), 0);
        // 7 back is right in house 0 alone, as five houses in a row are taken behind it: each of five would have it of pf.
        String text = "town houses 40 lips 0;person pa house 5;person pb house 4;person pc house 3;person pd house 2;"
            + "person pe house 1;person pf house 0";
        StringBuilder dead = new StringBuilder();
        for (char p = 'a'; p <= 'e'; p++) {
            dead.append(";dead d").append(p).append(" early slip 7 for p").append(p);
        }
        SeanceStreet x = Check.townOf(text + dead);
        CHECK.due("right(0)", x.right(0), 0);
        CHECK.due("restless(0), each of five with the sixth", x.restless(0), 5);
        CHECK.due("seat(0), one of them", x.seat(0), 1);
        CHECK.due("seatAt(0, 0), the first", x.seatAt(0, 0), 0);
    }

    private static void noHouseToMoveTo() {
        CHECK.by("31: The house in which nobody is (there is none)");
        SeanceStreet x = Check.townOf(Towns.PAIR + ";dead x late slip 1 for a");
        CHECK.due("moveFor(0, 0)", x.moveFor(0, 0), -2);
        CHECK.due("moveFor(1, 99)", x.moveFor(1, 99), -2);
        CHECK.due("trouble()", x.trouble(), 0);
    }

    private static void byNoneMore() {
        CHECK.by("31: -2 by none more than where he is");
        // Right wherever he is, and as many where he is.
        SeanceStreet x = Check.townOf("town houses 3 lips 0;person a house 0;person b house 1;dead x late slip 0 for a");
        CHECK.due("moveFor(0, 0)", x.moveFor(0, 0), -2);
        CHECK.due("moveFor(1, 0)", x.moveFor(1, 0), -2);
        CHECK.due("moveFor(0, 0), no dead", Check.townOf(Texts.people(40, 0, 6)).moveFor(0, 0), -2);
        CHECK.due("trouble()", x.trouble(), 0);
    }

    private static void moveToTheFirst() {
        CHECK.by("31: that most sayings of all are RIGHT on a night, the first such");
        // 39 on is 1 back: right but just behind b's house.
        SeanceStreet last = Check.townOf("town houses 40 lips 0;person a house 1;person b house 0;dead x late slip 39 for a");
        CHECK.due("right(0), at 0", last.right(0), 0);
        CHECK.due("moveFor(0, 0), the first free one", last.moveFor(0, 0), 2);
        CHECK.due("moveFor(1, 0), out of his way", last.moveFor(1, 0), 2);
        // 38 on is 2 back: right from 3 on.
        last.teach(0, 38);
        CHECK.due("moveFor(0, 0)", last.moveFor(0, 0), 3);
        // 1 on is 39 back, past b wherever a is.
        last.teach(0, 1);
        CHECK.due("moveFor(0, 0), nowhere", last.moveFor(0, 0), -2);
        SeanceStreet end = Check.townOf("town houses 40 lips 0;person a house 1;person b house 0;dead x early slip 38 for a");
        CHECK.due("moveFor(0, 0), the last house", end.moveFor(0, 0), 39);
        SeanceStreet first = Check.townOf("town houses 4 lips 0;person a house 2;person b house 1;dead x late slip 3 for a");
        CHECK.due("moveFor(0, 0), the first house", first.moveFor(0, 0), 0);
        CHECK.due("person(0, 0), he stays", end.person(0, 0), 1);
        // Of all: b's move puts a's right.
        SeanceStreet all = Check.townOf("town houses 4 lips 0;person a house 1;person b house 0;dead x late slip 3 for a");
        CHECK.due("moveFor(1, 0)", all.moveFor(1, 0), 2);
    }

    private static void noStepsIfThereAreNone() {
        CHECK.by("III: BRING: 0 steps, if there are none");
        SeanceStreet none = Check.townOf(Texts.people(40, 0, 6));
        SeanceStreet right = Check.townOf(Texts.people(40, 0, 6) + Texts.dead(6, "late", 0, "pa"));
        for (int from : new int[] {0, 20, 39}) {
            CHECK.due("bring(" + from + ", 0), no dead", none.bring(from, 0), 0);
            CHECK.due("bring(" + from + ", 99), all right", right.bring(from, 99), 0);
        }
        CHECK.due("trouble()", right.trouble(), 0);
        CHECK.due("bringFrom(0), no dead", none.bringFrom(0), 0);
        CHECK.due("bringFrom(99), all right", right.bringFrom(99), 0);
    }

    private static void eitherWayRound() {
        CHECK.by("III: the fewest steps (from house to house, either way round)");
        // b hears what is for a: from b's house to a's.
        SeanceStreet x = Check.townOf("town houses 40 lips 0;person a house 39;person b house 1;dead x late slip 1 for a");
        CHECK.due("bring(1, 0), past the first house", x.bring(1, 0), 2);
        CHECK.due("bring(0, 0)", x.bring(0, 0), 3);
        CHECK.due("bring(39, 0), there and back", x.bring(39, 0), 4);
        CHECK.due("bring(21, 0), twenty either way", x.bring(21, 0), 22);
        CHECK.due("bring(22, 0), the other way", x.bring(22, 0), 21);
        CHECK.due("bringFrom(0)", x.bringFrom(0), 1);
        SeanceStreet two = Check.townOf(Texts.people(2, 0, 2) + ";dead x late slip 1 for pa;dead y late slip 1 for pb");
        CHECK.due("bring(0, 0) of two houses", two.bring(0, 0), 2);
        CHECK.due("bring(1, 0) of two houses", two.bring(1, 0), 2);
    }

    private static void whereverItEnds() {
        CHECK.by("III: many may be carried; in whatever order, ending wherever");
        // Six sayings, all heard by pa, in 0, for others: out and once along the row.
        SeanceStreet x = Check.townOf(Texts.people(40, 0, 6) + ";dead u early slip 6 for pb;dead v early slip 6 for pc;"
            + "dead w early slip 6 for pd;dead x early slip 6 for pe;dead y early slip 6 for pf;dead z early slip 7 for pf");
        CHECK.due("person(0, 2)", x.person(0, 2), 63);
        CHECK.due("bring(0, 0)", x.bring(0, 0), 5);
        CHECK.due("bring(5, 0), for nothing till 0", x.bring(5, 0), 10);
        CHECK.due("bring(20, 0)", x.bring(20, 0), 25);
        // Each is heard by the next one on: back round, what is fetched in one house is brought to the next.
        SeanceStreet apart = Check.townOf("town houses 12 lips 0;person a house 0;person b house 4;person c house 8;"
            + "dead x late slip 4 for a;dead y late slip 4 for b;dead z late slip 4 for c");
        CHECK.due("bring(0, 0), back round", apart.bring(0, 0), 12);
        CHECK.due("bring(2, 0)", apart.bring(2, 0), 14);
        CHECK.due("bringFrom(0)", apart.bringFrom(0), 0);
        // Two pairs of neighbours hear each other's: to and fro, across, to and fro, five times three steps.
        SeanceStreet pairs = Check.townOf("town houses 12 lips 0;person a house 0;person b house 3;person c house 6;"
            + "person d house 9;dead u late slip 3 for a;dead v early slip 3 for b;dead w late slip 3 for c;"
            + "dead x early slip 3 for d");
        CHECK.due("bring(0, 0), two pairs", pairs.bring(0, 0), 15);
        CHECK.due("bring(4, 0), two pairs", pairs.bring(4, 0), 16);
        CHECK.due("bring(9, 0), two pairs", pairs.bring(9, 0), 15);
    }

    private static void bringingAnew() {
        CHECK.by("32: BRING, of the night that is asked and the TOWN that is, whatever was asked before");
        // On night n all is heard n houses on, in a ring of six: once round, or half round and back.
        StringBuilder dead = new StringBuilder();
        for (char p = 'a'; p <= 'f'; p++) {
            dead.append(";dead d").append(p).append(" drift slip 1 for p").append(p);
        }
        SeanceStreet x = Check.townOf(Texts.people(6, 0, 6) + dead);
        for (int night : new int[] {1, 0, 5, 6, 1}) {
            CHECK.due("bring(0, " + night + ")", x.bring(0, night), night % 6 == 0 ? 0 : 6);
        }
        CHECK.due("bring(0, 3), half round and on", x.bring(0, 3), 8);
        Check.tell(x, Texts.people(6, 0, 2) + ";dead x late slip 1 for pa");
        CHECK.due("bring(0, 0), of another town", x.bring(0, 0), 2);
        CHECK.due("bringFrom(0)", x.bringFrom(0), 1);
        x.teach(0, 0);
        CHECK.due("bring(0, 0), none now", x.bring(0, 0), 0);
        // The same dead is for another now, who is farther off than the one he was for.
        Check.tell(x, "town houses 40 lips 0;person a house 0;person b house 1;person c house 10;dead x early slip 9 for c");
        CHECK.due("bring(1, 0), for another", x.bring(1, 0), 9);
    }

    private static void fewestFrom() {
        CHECK.by("33: The house from which it is fewest, the first such");
        // The last house is where it is heard.
        SeanceStreet last = Check.townOf("town houses 40 lips 0;person a house 20;person b house 39;"
            + "dead x late slip 1 for a");
        CHECK.due("bringFrom(0), the last house", last.bringFrom(0), 39);
        CHECK.due("bring(39, 0)", last.bring(39, 0), 19);
        // Heard by both, for the other one each: from either.
        SeanceStreet both = Check.townOf("town houses 40 lips 0;person a house 30;person b house 39;"
            + "dead x late slip 1 for a;dead y late slip 1 for b");
        CHECK.due("bring(39, 0)", both.bring(39, 0), 18);
        CHECK.due("bring(30, 0)", both.bring(30, 0), 18);
        CHECK.due("bringFrom(0), the first of two", both.bringFrom(0), 30);
    }

    private static void steps() {
        CHECK.by("34: How many steps from house to house, the shorter way round");
        SeanceStreet x = Check.townOf(Texts.people(40, 0, 1));
        int[][] rows = {{0, 0, 0}, {39, 39, 0}, {0, 39, 1}, {39, 0, 1}, {0, 20, 20}, {20, 0, 20}, {0, 21, 19}, {0, 19, 19},
            {10, 31, 19}, {31, 10, 19}};
        for (int[] row : rows) {
            CHECK.due("steps(" + row[0] + ", " + row[1] + ")", x.steps(row[0], row[1]), row[2]);
        }
        SeanceStreet two = Check.townOf(Texts.people(2, 0, 1));
        CHECK.due("steps(0, 1) of two", two.steps(0, 1), 1);
        CHECK.due("steps(1, 0) of two", two.steps(1, 0), 1);
        SeanceStreet three = Check.townOf(Texts.people(39, 0, 1));
        CHECK.due("steps(0, 19) of an odd ring", three.steps(0, 19), 19);
        CHECK.due("steps(0, 20) of an odd ring", three.steps(0, 20), 19);
    }

    private static void ringOfOne() {
        CHECK.by("III: RING: how many people (1, if he HEARS his own)");
        SeanceStreet x = Check.townOf(Texts.people(6, 0, 6) + ";dead x late slip 0 for pf;dead y late slip 1 for pf");
        CHECK.due("ring(5, 0), by the first dead", x.ring(5, 0), 1);
        CHECK.due("ringAt(5, 0, 0)", x.ringAt(5, 0, 0), 5);
        x.teach(0, 1);
        x.teach(1, 0);
        CHECK.due("ring(5, 0), not by the second", x.ring(5, 0), -2);
    }

    private static void ringOfSix() {
        CHECK.by("III: RING: and so on till it comes to him again (all six)");
        StringBuilder dead = new StringBuilder();
        for (char p = 'f'; p >= 'a'; p--) {
            dead.append(";dead d").append(p).append(" drift slip 1 for p").append(p);
        }
        SeanceStreet x = Check.townOf(Texts.people(6, 0, 6) + dead);
        int[] lengths = {1, 6, 3, 2, 3, 6, 1};
        for (int night = 0; night < lengths.length; night++) {
            for (int p = 0; p < 6; p++) {
                CHECK.due("ring(" + p + ", " + night + ")", x.ring(p, night), lengths[night]);
            }
        }
        for (int i = 0; i < 6; i++) {
            CHECK.due("ringAt(5, 1, " + i + ")", x.ringAt(5, 1, i), (5 + i) % 6);
            CHECK.due("ringAt(5, 5, " + i + ")", x.ringAt(5, 5, i), 5 - i);
        }
    }

    private static void noRing() {
        CHECK.by("35: -2 it doesn't come to him again (nobody dead is for one, too)");
        SeanceStreet x = Check.townOf(Texts.people(6, 0, 6) + ";dead x late slip 1 for pa;dead y late slip 1 for pb;"
            + "dead z early slip 1 for pc;dead w late slip 1 for pe");
        CHECK.due("ring(0, 0), caught behind him", x.ring(0, 0), -2);
        CHECK.due("trouble()", x.trouble(), 0);
        CHECK.due("ring(1, 0)", x.ring(1, 0), 2);
        CHECK.due("ring(2, 0)", x.ring(2, 0), 2);
        CHECK.due("ring(3, 0), nobody dead is for him", x.ring(3, 0), -2);
        CHECK.due("ring(4, 0), nor for the next one", x.ring(4, 0), -2);
        CHECK.due("ring(0, 0), no dead", Check.townOf(Towns.PAIR).ring(0, 0), -2);
    }

    private static void ringAt() {
        CHECK.by("36: The i-th person of it (0 himself). NONE: 1 (i, too; it doesn't); 2");
        SeanceStreet x = Check.townOf(Texts.people(6, 0, 6) + ";dead x drift slip 1 for pa;dead y drift slip 5 for pb;"
            + "dead z drift slip 1 for pf");
        CHECK.due("ringAt(0, 1, 0), himself", x.ringAt(0, 1, 0), 0);
        CHECK.due("ringAt(0, 1, 1), the last", x.ringAt(0, 1, 1), 1);
        CHECK.due("ringAt(1, 1, 1)", x.ringAt(1, 1, 1), 0);
        CHECK.due("trouble()", x.trouble(), 0);
        for (int i : new int[] {2, -1, 6, Integer.MIN_VALUE, Integer.MAX_VALUE}) {
            CHECK.refused(x, "ringAt(0, 1, " + i + ")", x.ringAt(0, 1, i), -1, 1);
        }
        for (int i : new int[] {0, 1, -1, -2, -3}) {
            CHECK.refused(x, "ringAt(5, 1, " + i + "), it doesn't", x.ringAt(5, 1, i), -1, 1);
            CHECK.refused(x, "ringAt(3, 0, " + i + "), nobody dead", x.ringAt(3, 0, i), -1, 1);
        }
        CHECK.due("ringAt(5, 0, 0)", x.ringAt(5, 0, 0), 5);
        CHECK.refused(x, "ringAt(0, 100, 0)", x.ringAt(0, 100, 0), -1, 2);
        CHECK.refused(x, "ringAt(0, -1, 0)", x.ringAt(0, -1, 0), -1, 2);
        CHECK.refused(x, "ringAt(6, 0, 0)", x.ringAt(6, 0, 0), -1, 1);
        CHECK.refused(x, "ringAt(-1, 0, 0)", x.ringAt(-1, 0, 0), -1, 1);
        CHECK.refused(x, "ringAt(6, 100, 0), 1 ahead of 2", x.ringAt(6, 100, 0), -1, 1);
        SeanceStreet none = new SeanceStreet();
        CHECK.refused(none, "ringAt(0, 0, 0), no TOWN", none.ringAt(0, 0, 0), -1, 1);
        CHECK.refused(none, "ringAt(0, 100, -1), no TOWN", none.ringAt(0, 100, -1), -1, 1);
    }
}
