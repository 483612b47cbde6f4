import java.util.NoSuchElementException;

/** The sentences of promises 13 to 31 that name an edge, a method each. */
public final class AnswerEdgesTest {
    private static final Class<NoSuchElementException> NO_SUCH = NoSuchElementException.class;

    // x is in one room, y is split, z is walked, w waits, v is absent, u is cancelled
    private static final String TEXT = "room a men 1 0 4;room b men 2 0 5;room c mixed 1 0 6;over 50;walk 9;book x 2 2 0 2 0 100;book y 2 1 0 2 0 50;"
            + "book z 3 1 2 0 0 50;book w 2 1 3 0 0 100;book v 3 1 1 1 0 50;absent v;book u 2 1 0 1 0 100;cancel u;";

    public static void main(String[] args) {
        placed();
        roomsAsBits();
        roomOfNoBeds();
        bedOfNoBeds();
        occupantOfAFreeBed();
        freeBeds();
        occupiedBeds();
        bookedPersons();
        walkedPersons();
        fullNights();
        fullNightsWithoutRooms();
        longestFree();
        splits();
        nightsBehindItsStay();
        extendableWithoutBeds();
        paysWithoutBeds();
        walkCostOfNone();
        negativeNet();
        numberThatCannotCome();
        moreThanBeds();
        riskWithoutMore();
        byAscendingNumber();
        walksOnTheAverage();
        expectedWalksByAscendingNumber();
        Check.finish();
    }

    private static void placed() {
        Check.sentence("0 it is not accepted or absent, 1 it is in one room, 2 it is split, 3 it is walked");
        HostelBeds hostel = Check.loaded(TEXT);
        int[] due = {1, 2, 3, 0, 0, 0};
        for (int booking = 0; booking < 6; booking++) {
            Check.due("placed(" + booking + ")", hostel.placed(booking), due[booking]);
        }
        hostel.setAbsent(2, true);
        Check.due("placed(2) of an absent one", hostel.placed(2), 0);
        hostel.setAbsent(2, false);
        Check.due("placed(2)", hostel.placed(2), 3);
        hostel.cancel(2);
        Check.due("placed(2) of a cancelled one", hostel.placed(2), 0);
    }

    private static void roomsAsBits() {
        Check.sentence("Returns the rooms in which a booking has beds, as bits.");
        HostelBeds hostel = Check.loaded(TEXT);
        int[] due = {2, 5, 0, 0, 0, 0};
        for (int booking = 0; booking < 6; booking++) {
            Check.due("roomsOf(" + booking + ")", hostel.roomsOf(booking), due[booking]);
        }
        StringBuilder rooms = new StringBuilder();
        for (int room = 0; room < 8; room++) {
            rooms.append("room ").append((char) ('a' + room)).append(" men 1 ").append(room * 10).append(" ").append(9 - room).append(';');
        }
        HostelBeds eight = Check.loaded(rooms.toString());
        for (int room = 0; room < 8; room++) {
            eight.book(room, 1, 0, 1, room * 10, 0);
            Check.due("roomsOf(" + room + ")", eight.roomsOf(room), 1 << room);
        }
        eight.book(20, 1, 0, 8, 99, 0);
        Check.due("roomsOf(8)", eight.roomsOf(8), 255);
    }

    private static void roomOfNoBeds() {
        Check.sentence("roomOf: Throws NoSuchElementException if the booking has no beds");
        HostelBeds hostel = Check.loaded(TEXT);
        for (int booking = 2; booking < 6; booking++) {
            int b = booking;
            Check.fails("roomOf(" + b + ", 0)", NO_SUCH, () -> hostel.roomOf(b, 0));
        }
        Check.due("roomOf(0, 1)", hostel.roomOf(0, 1), 1);
        hostel.setAbsent(0, true);
        Check.fails("roomOf(0, 1)", NO_SUCH, () -> hostel.roomOf(0, 1));
        hostel.undo();
        Check.due("roomOf(1, 0)", hostel.roomOf(1, 0), 0);
        Check.due("roomOf(1, 1)", hostel.roomOf(1, 1), 2);
        hostel.cancel(1);
        Check.fails("roomOf(1, 1)", NO_SUCH, () -> hostel.roomOf(1, 1));
    }

    private static void bedOfNoBeds() {
        Check.sentence("bedOf: Throws NoSuchElementException if the booking has no beds");
        HostelBeds hostel = Check.loaded(TEXT);
        for (int booking = 2; booking < 6; booking++) {
            int b = booking;
            Check.fails("bedOf(" + b + ", 0)", NO_SUCH, () -> hostel.bedOf(b, 0));
        }
        Check.due("bedOf(0, 1)", hostel.bedOf(0, 1), 1);
        hostel.setAbsent(0, true);
        Check.fails("bedOf(0, 1)", NO_SUCH, () -> hostel.bedOf(0, 1));
        hostel.undo();
        Check.due("bedOf(1, 1)", hostel.bedOf(1, 1), 0);
        hostel.setTogether(1, true);
        Check.fails("bedOf(1, 1)", NO_SUCH, () -> hostel.bedOf(1, 1));
    }

    private static void occupantOfAFreeBed() {
        Check.sentence("Returns the booking that has a bed in a night; NONE if it is free.");
        HostelBeds hostel = Check.loaded(TEXT);
        int[][] due = {{-1, -1, -1, -1}, {1, 0, 0, 1}, {-1, 0, 0, -1}, {-1, -1, -1, -1}};
        for (int night = 1; night <= 4; night++) {
            Check.due("occupant(0, 0, " + night + ")", hostel.occupant(0, 0, night), due[night - 1][0]);
            Check.due("occupant(1, 0, " + night + ")", hostel.occupant(1, 0, night), due[night - 1][1]);
            Check.due("occupant(1, 1, " + night + ")", hostel.occupant(1, 1, night), due[night - 1][2]);
            Check.due("occupant(2, 0, " + night + ")", hostel.occupant(2, 0, night), due[night - 1][3]);
        }
        HostelBeds last = Check.loaded("room a men 10 0 1;room b mixed 10 0 1;book x 29 1 0 10 0 0;book y 0 29 10 0 0 0;book z 28 2 0 10 0 0;");
        Check.due("occupant(0, 9, 29)", last.occupant(0, 9, 29), 2);
        Check.due("occupant(1, 9, 29)", last.occupant(1, 9, 29), 0);
        Check.due("occupant(1, 9, 28)", last.occupant(1, 9, 28), 1);
        Check.due("occupant(0, 9, 27)", last.occupant(0, 9, 27), -1);
    }

    private static void freeBeds() {
        Check.sentence("Returns the number of beds of a room that are free in a night. - none and all of them");
        for (int persons = 1; persons <= 10; persons++) {
            HostelBeds hostel = Check.loaded("room a men 10 0 1;room b women 3 0 1;book x 5 1 0 " + persons + " 0 0;");
            Check.due("freeBeds(0, 5) of " + persons, hostel.freeBeds(0, 5), 10 - persons);
            Check.due("freeBeds(1, 5)", hostel.freeBeds(1, 5), 3);
            Check.due("freeBeds(0, 4)", hostel.freeBeds(0, 4), 10);
            Check.due("freeBeds(0, 6)", hostel.freeBeds(0, 6), 10);
            hostel.setAbsent(0, true);
            Check.due("freeBeds(0, 5) of absent ones", hostel.freeBeds(0, 5), 10);
        }
    }

    private static void occupiedBeds() {
        Check.sentence("Returns the number of beds of all rooms that someone has in a night. - of none and of all");
        StringBuilder text = new StringBuilder();
        for (char name = 'a'; name < 'i'; name++) {
            text.append("room ").append(name).append(" men 10 0 1;");
        }
        HostelBeds hostel = Check.loaded(text.toString());
        for (int group = 0; group < 8; group++) {
            Check.due("occupied(3)", hostel.occupied(3), group * 10);
            hostel.book(3, 2, 0, 10, 0, 0);
        }
        Check.due("occupied", hostel.occupied(2) + " " + hostel.occupied(3) + " " + hostel.occupied(4) + " " + hostel.occupied(5), "0 80 80 0");
        HostelBeds some = Check.loaded(TEXT);
        Check.due("occupied", some.occupied(1) + " " + some.occupied(2) + " " + some.occupied(3) + " " + some.occupied(4), "0 4 2 0");
        Check.due("without rooms", new HostelBeds().occupied(0), 0);
    }

    private static void bookedPersons() {
        Check.sentence("Returns the number of persons of accepted bookings that stay in a night.");
        HostelBeds hostel = Check.loaded(TEXT);
        // with the walked z and the absent v, without w and u
        Check.due("booked", hostel.booked(1) + " " + hostel.booked(2) + " " + hostel.booked(3) + " " + hostel.booked(4), "0 4 6 0");
        Check.due("without rooms", new HostelBeds().booked(29), 0);
    }

    private static void walkedPersons() {
        Check.sentence("Returns the number of persons of walked bookings that would stay in a night.");
        HostelBeds hostel = Check.loaded(TEXT);
        Check.due("walked", hostel.walked(1) + " " + hostel.walked(2) + " " + hostel.walked(3) + " " + hostel.walked(4), "0 0 2 0");
        hostel.setAbsent(2, true);
        Check.due("walked(3) of an absent one", hostel.walked(3), 0);
        HostelBeds all = Check.loaded("room a men 10 0 1;book x 0 30 10 0 0 0;");
        for (int night = 0; night < 30; night++) {
            Check.due("walked(" + night + ")", all.walked(night), 10);
        }
        HostelBeds two = Check.loaded("room a men 10 0 1;book x 0 2 5 0 0 0;book y 1 2 3 0 0 0;");
        Check.due("walked", two.walked(0) + " " + two.walked(1) + " " + two.walked(2) + " " + two.walked(3), "5 8 3 0");
    }

    private static void fullNights() {
        Check.sentence("Returns the number of nights in which no bed is free");
        for (int nights = 0; nights <= 30; nights++) {
            HostelBeds hostel = Check.loaded("room a men 2 0 1;room b women 1 0 1;book x 0 30 0 2 0 0;");
            if (nights > 0) {
                hostel.book(30 - nights, nights, 1, 0, 0, 0);
            }
            Check.due("fullNights() of " + nights, hostel.fullNights(), nights);
        }
        Check.due("one room", Check.loaded("room a men 1 0 1;book x 0 29 0 1 0 0;").fullNights(), 29);
        Check.due("one bed free", Check.loaded("room a men 2 0 1;book x 0 30 0 1 0 0;").fullNights(), 0);
        Check.due("booked, but walked", Check.loaded("room a men 2 0 1;book x 0 30 2 0 0 0;").fullNights(), 0);
        Check.due("booked, but absent", Check.loaded("room a men 2 0 1;book x 0 30 0 2 0 0;absent x;").fullNights(), 0);
    }

    private static void fullNightsWithoutRooms() {
        Check.sentence("0 without rooms");
        Check.due("a new object", new HostelBeds().fullNights(), 0);
        Check.due("without rooms", Check.loaded("book x 0 30 0 1 0 0;").fullNights(), 0);
        Check.due("with a room", Check.loaded("room a men 1 0 1;").fullNights(), 0);
    }

    private static void longestFree() {
        Check.sentence("Returns the greatest number of successive nights in which a bed is free.");
        for (int from = 0; from < 30; from++) {
            for (int nights = 1; nights <= 30 - from; nights += from % 3 + 1) {
                HostelBeds hostel = Check.loaded("room a men 2 0 1;");
                hostel.book(from, nights, 0, 1, 0, 0);
                Check.due("longestFree(0, 0) of " + from + ", " + nights, hostel.longestFree(0, 0), Math.max(from, 30 - from - nights));
                Check.due("longestFree(0, 1)", hostel.longestFree(0, 1), 30);
            }
        }
        Check.due("none", Check.loaded("room a men 1 0 1;book x 0 30 0 1 0 0;").longestFree(0, 0), 0);
        Check.due("between", Check.loaded("room a men 1 0 1;book x 5 1 0 1 0 0;book y 24 1 0 1 0 0;").longestFree(0, 0), 18);
        Check.due("one night", Check.loaded("room a men 1 0 1;book x 0 29 0 1 0 0;").longestFree(0, 0), 1);
        HostelBeds rooms = Check.loaded("room a men 2 0 1;room b men 2 0 1;room c men 2 0 1;book x 0 9 0 2 0 0;book y 0 8 0 2 0 0;"
                + "book z 0 7 0 1 0 0;book w 0 30 0 1 0 0;");
        Check.due("of each room", rooms.longestFree(0, 0) + " " + rooms.longestFree(0, 1) + " " + rooms.longestFree(1, 0) + " "
                + rooms.longestFree(1, 1) + " " + rooms.longestFree(2, 0) + " " + rooms.longestFree(2, 1), "21 21 22 22 23 0");
        Check.due("two of one", Check.loaded("room a men 1 0 1;book x 1 28 0 1 0 0;").longestFree(0, 0), 1);
    }

    private static void splits() {
        Check.sentence("Returns the number of bookings that are split. - none and all of them");
        Check.due("none", new HostelBeds().splits(), 0);
        StringBuilder text = new StringBuilder("room a men 1 0 1;room b men 1 0 1;");
        for (int booking = 0; booking < 16; booking++) {
            Check.due("splits() of " + booking, Check.loaded(text.toString()).splits(), booking);
            text.append("book ").append((char) ('a' + booking)).append(' ').append(booking).append(" 1 0 2 0 0;");
        }
        HostelBeds hostel = Check.loaded(text.toString());
        Check.due("splits()", hostel.splits(), 16);
        hostel.setAbsent(3, true);
        Check.due("splits() without the absent one", hostel.splits(), 15);
        hostel.setTogether(4, true);
        Check.due("splits() without the walked one", hostel.splits(), 14);
        hostel.cancel(5);
        Check.due("splits() without the cancelled one", hostel.splits(), 13);
    }

    private static void nightsBehindItsStay() {
        Check.sentence("Returns for how many nights behind its stay all beds of a booking are free, one after the other");
        for (int nights = 1; nights <= 30; nights++) {
            HostelBeds hostel = Check.loaded("room a men 2 0 1;");
            hostel.book(0, nights, 0, 2, 0, 0);
            Check.due("up to the last night", hostel.extendable(0), 30 - nights);
            for (int from = nights; from < 30; from += 4) {
                HostelBeds two = Check.loaded("room a men 2 0 1;");
                two.book(0, nights, 0, 2, 0, 0);
                // one of the beds, for one night
                two.book(from, 1, 0, 1, 0, 0);
                Check.due(nights + " nights, up to " + from, two.extendable(0), from - nights);
            }
        }
        HostelBeds other = Check.loaded("room a men 2 0 1;book x 0 1 0 1 0 0;book y 0 3 0 1 0 0;book z 2 1 0 1 0 0;");
        // z has the bed of x, not that of y; what is free behind z does not count for x
        Check.due("extendable", other.extendable(0) + " " + other.extendable(1) + " " + other.extendable(2), "1 27 27");
        HostelBeds rooms = Check.loaded("room a men 1 0 1;room b women 1 0 1;book x 0 2 1 0 0 0;book y 5 1 0 1 0 0;book z 20 1 1 0 0 0;");
        Check.due("the beds of others do not count", rooms.extendable(0) + " " + rooms.extendable(1), "18 24");
        HostelBeds split = Check.loaded("room a men 1 0 1;room b men 2 0 1;book x 0 2 0 3 0 0;book y 5 1 0 2 0 0;book z 4 1 0 1 0 0;");
        Check.due("extendable of a split one", split.extendable(0), 2);
    }

    private static void extendableWithoutBeds() {
        Check.sentence("extendable: 0 if it has no beds");
        HostelBeds hostel = Check.loaded(TEXT);
        int[] due = {26, 27, 0, 0, 0, 0};
        for (int booking = 0; booking < 6; booking++) {
            Check.due("extendable(" + booking + ")", hostel.extendable(booking), due[booking]);
        }
    }

    private static void paysWithoutBeds() {
        Check.sentence("Returns what a booking pays; 0 if it has no beds.");
        HostelBeds hostel = Check.loaded(TEXT);
        int[] due = {20, 10, 0, 0, 0, 0};
        for (int booking = 0; booking < 6; booking++) {
            Check.due("pays(" + booking + ")", hostel.pays(booking), due[booking]);
        }
        hostel.setAbsent(0, true);
        Check.due("pays(0) of an absent one", hostel.pays(0), 0);
        hostel.setTogether(1, true);
        hostel.setPrice(2, 200);
        Check.due("pays(1) together", hostel.pays(1), 10);
        hostel.setAbsent(0, false);
        Check.due("pays(1) of a walked one", hostel.pays(1), 0);
        hostel.cancel(0);
        Check.due("pays(0) of a cancelled one", hostel.pays(0), 0);
    }

    private static void walkCostOfNone() {
        Check.sentence("Returns what all walks cost. - of none, and of all");
        Check.due("none", new HostelBeds().walkCost(), 0);
        Check.due("one", Check.loaded(TEXT).walkCost(), 18);
        StringBuilder text = new StringBuilder("walk 300;over 50;");
        for (char name = 'a'; name < 'i'; name++) {
            text.append("room ").append(name).append(" men 10 99 1;");
        }
        HostelBeds hostel = Check.loaded(text.toString());
        for (int booking = 0; booking < 10; booking++) {
            hostel.book(0, 30, 12, 0, 0, 0);
        }
        Check.due("all", hostel.walkCost(), 10 * 12 * 30 * 300);
        Check.due("net()", hostel.net(), -10 * 12 * 30 * 300);
    }

    private static void negativeNet() {
        Check.sentence("Returns the net; it can be negative.");
        HostelBeds hostel = Check.loaded(TEXT);
        Check.due("above 0", hostel.net(), 12);
        hostel.setWalk(15);
        Check.due("0", hostel.net(), 0);
        hostel.setWalk(16);
        Check.due("below 0", hostel.net(), -2);
        hostel.setWalk(300);
        Check.due("far below 0", hostel.net(), -570);
    }

    private static void numberThatCannotCome() {
        Check.sentence("0.0 for a number that cannot come");
        HostelBeds hostel = Check.loaded(TEXT);
        for (int guests : new int[] {-1, -2, -12, 5, 7, 12, 120, 191, 192, 193, 194, 204, 1000, 65536, Integer.MAX_VALUE, Integer.MIN_VALUE,
            Integer.MIN_VALUE + 1, Integer.MAX_VALUE - 1}) {
            for (int night : new int[] {0, 2, 3, 29}) {
                Check.due("chance(" + night + ", " + guests + ")", hostel.chance(night, guests), 0.0);
            }
        }
        // x comes, z and v with 50 percent each
        double[] due = {0.0, 0.0, 0.25, 0.0, 0.5, 0.0, 0.25, 0.0};
        for (int guests = 0; guests < 8; guests++) {
            Check.due("chance(3, " + guests + ")", hostel.chance(3, guests), due[guests]);
        }
        StringBuilder text = new StringBuilder("over 50;");
        for (char name = 'a'; name < 'i'; name++) {
            text.append("room ").append(name).append(" men 10 0 1;");
        }
        HostelBeds most = Check.loaded(text.toString());
        for (int booking = 0; booking < 10; booking++) {
            most.book(0, 1, 12, 0, 0, 100);
        }
        Check.due("chance(0, 120)", most.chance(0, 120), 1.0);
        Check.due("chance(0, 119)", most.chance(0, 119), 0.0);
        Check.due("chance(0, 121)", most.chance(0, 121), 0.0);
    }

    private static void moreThanBeds() {
        Check.sentence("Returns the chance that more guests come in a night than there are beds");
        for (int persons = 1; persons <= 3; persons++) {
            HostelBeds hostel = Check.loaded("room a men 4 0 1;over 50;book x 0 1 0 3 0 50;");
            hostel.book(0, 1, 0, persons, 0, 50);
            // as many as beds are not more
            Check.due("risk(0) of 3 + " + persons, hostel.risk(0), persons > 1 ? 0.25 : 0.0);
        }
        StringBuilder text = new StringBuilder("over 50;");
        for (char name = 'a'; name < 'i'; name++) {
            text.append("room ").append(name).append(" men 10 0 1;");
        }
        HostelBeds most = Check.loaded(text.toString());
        for (int booking = 0; booking < 10; booking++) {
            most.book(0, 1, 0, 12, 0, 100);
        }
        Check.due("risk(0) of 120", most.risk(0), 1.0);
        Check.due("expectedWalks(0) of 120", most.expectedWalks(0), 40.0);
    }

    private static void riskWithoutMore() {
        Check.sentence("Returns the chance that more guests come in a night than there are beds - none can");
        HostelBeds hostel = Check.loaded("room a men 4 0 1;book x 0 1 0 4 0 100;");
        Check.due("risk(0)", hostel.risk(0), 0.0);
        Check.due("expectedWalks(0)", hostel.expectedWalks(0), 0.0);
        Check.due("risk(1)", hostel.risk(1), 0.0);
        Check.due("without rooms", new HostelBeds().risk(0), 0.0);
        Check.due("without rooms", new HostelBeds().expectedWalks(0), 0.0);
        Check.due("one that waits", Check.loaded("book x 0 1 0 4 0 100;").risk(0), 0.0);
    }

    private static final int[] CHANCES = {56, 98, 22, 75, 74, 64, 82, 83};
    private static final int[] PERSONS = {1, 2, 1, 3, 1, 1, 4, 2};

    /** Ten beds and 15 persons; also the chances of their numbers. */
    private static HostelBeds overbooked(double[] p) {
        HostelBeds hostel = Check.loaded("room a mixed 10 0 1;over 50;");
        p[0] = 1.0;
        for (int i = 0; i < 8; i++) {
            hostel.book(4, 1, 0, PERSONS[i], 0, CHANCES[i]);
            double c = CHANCES[i] / 100.0;
            for (int k = p.length - 1; k >= 0; k--) {
                p[k] = p[k] * (1.0 - c) + (k >= PERSONS[i] ? p[k - PERSONS[i]] : 0.0) * c;
            }
        }
        Check.due("booked(4)", hostel.booked(4), 15);
        return hostel;
    }

    private static void byAscendingNumber() {
        Check.sentence("the sum of p(k) for all these k, by ascending k");
        double[] p = new double[20];
        HostelBeds hostel = overbooked(p);
        double up = 0.0;
        double down = 0.0;
        for (int k = 11; k <= 15; k++) {
            up += p[k];
            down += p[26 - k];
        }
        Check.due("the order tells", up == down, false);
        Check.due("risk(4)", hostel.risk(4), up);
    }

    private static void walksOnTheAverage() {
        Check.sentence("the sum of (k - beds) * p(k) for all k greater than the number of beds");
        for (int persons = 1; persons <= 3; persons++) {
            HostelBeds hostel = Check.loaded("room a men 4 0 1;over 50;book x 0 1 0 3 0 50;");
            hostel.book(0, 1, 0, persons, 0, 50);
            Check.due("expectedWalks(0) of 3 + " + persons, hostel.expectedWalks(0), (persons - 1) * 0.25);
        }
        // by numbers alone: who is walked or absent changes nothing
        HostelBeds hostel = Check.loaded("room a men 4 0 1;over 50;book x 0 1 3 0 0 50;book y 0 1 0 3 0 50;absent y;");
        Check.due("placed", hostel.placed(0) + " " + hostel.placed(1), "3 0");
        Check.due("expectedWalks(0)", hostel.expectedWalks(0), 0.5);
        Check.due("risk(0)", hostel.risk(0), 0.25);
    }

    private static void expectedWalksByAscendingNumber() {
        Check.sentence("the sum of (k - beds) * p(k) .., by ascending k");
        double[] p = new double[20];
        HostelBeds hostel = overbooked(p);
        double up = 0.0;
        double down = 0.0;
        for (int k = 11; k <= 15; k++) {
            up += (k - 10) * p[k];
            down += (16 - k) * p[26 - k];
        }
        Check.due("the order tells", up == down, false);
        Check.due("expectedWalks(4)", hostel.expectedWalks(4), up);
    }
}
