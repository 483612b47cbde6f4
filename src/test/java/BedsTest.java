import java.util.NoSuchElementException;

/** Promises 13 to 25: who sleeps where, and what that leaves free. */
public final class BedsTest {
    private static final Class<IndexOutOfBoundsException> INDEX = IndexOutOfBoundsException.class;
    private static final Class<NoSuchElementException> NO_SUCH = NoSuchElementException.class;

    public static void main(String[] args) {
        oneRoom();
        order();
        freeForTheStay();
        split();
        smallestSet();
        walked();
        bedsInOrder();
        notPlaced();
        nights();
        fullNights();
        longestFree();
        extendable();
        wrongParameters();
        Check.finish();
    }

    private static void oneRoom() {
        HostelBeds hostel = Check.loaded("room a mixed 4 0 30;room b mixed 2 0 30;room c mixed 2 0 20;room d women 2 0 20;"
                + "room e men 3 10 5;book p 0 1 2 0 20 1;book q 0 1 2 0 20 1;book r 0 1 1 1 20 1;book s 0 1 0 3 9 1;"
                + "book t 0 1 0 2 10 1;");
        // fewest free beds, then the lowest PRICE, then the lowest number
        Check.due("beds of p", beds(hostel, 0), "1: c0 c1");
        Check.due("beds of q", beds(hostel, 1), "1: d0 d1");
        // a mixed group goes to a mixed room, 9 years are too few for room e
        Check.due("beds of r", beds(hostel, 2), "1: b0 b1");
        Check.due("beds of s", beds(hostel, 3), "1: a0 a1 a2");
        Check.due("beds of t", beds(hostel, 4), "1: e0 e1");
        hostel.setPrice(1, 19);
        Check.due("beds of p behind setPrice()", beds(hostel, 0), "1: b0 b1");
        hostel.setPrice(1, 20);
        Check.due("beds of p by number", beds(hostel, 0), "1: b0 b1");
        HostelBeds women = Check.loaded("room a men 3 0 1;room b mixed 3 0 9;book p 0 1 2 0 0 0;");
        Check.due("women do not go to men", beds(women, 0), "1: b0 b1");
        HostelBeds men = Check.loaded("room a women 3 0 1;room b mixed 3 0 9;book p 0 1 0 2 0 0;");
        Check.due("men do not go to women", beds(men, 0), "1: b0 b1");
    }

    private static void order() {
        HostelBeds hostel = Check.loaded("room a mixed 2 0 10;room b mixed 2 0 20;room c mixed 2 0 30;"
                + "book x 1 1 2 0 20 1;book y 0 2 2 0 20 1;book z 1 1 0 2 20 1;");
        Check.due("beds of y, the first by FROM", beds(hostel, 1), "1: a0 a1");
        Check.due("beds of x, the first by number", beds(hostel, 0), "1: b0 b1");
        Check.due("beds of z", beds(hostel, 2), "1: c0 c1");
        Check.due("occupant(0, 0, 1)", hostel.occupant(0, 0, 1), 1);
        Check.due("occupant(1, 1, 1)", hostel.occupant(1, 1, 1), 0);
        Check.due("occupant(1, 1, 0)", hostel.occupant(1, 1, 0), HostelBeds.NONE);
        Check.due("occupant(2, 0, 2)", hostel.occupant(2, 0, 2), HostelBeds.NONE);
    }

    private static void freeForTheStay() {
        // room b has more free beds in night 3, but fewer for the whole stay
        HostelBeds hostel = Check.loaded("room a mixed 3 0 10;room b mixed 4 0 50;book x 0 2 3 0 0 0;book y 1 4 2 0 0 0;"
                + "book z 3 1 1 0 0 0;book w 4 9 1 0 0 0;book v 3 4 3 0 0 0;");
        Check.due("beds of x", beds(hostel, 0), "1: a0 a1 a2");
        Check.due("beds of y", beds(hostel, 1), "1: b0 b1");
        Check.due("beds of z", beds(hostel, 2), "1: b2");
        Check.due("beds of v", beds(hostel, 4), "1: a0 a1 a2");
        Check.due("beds of w", beds(hostel, 3), "1: b2");
    }

    private static void split() {
        HostelBeds hostel = Check.loaded("room a women 2 0 10;room b mixed 2 0 10;room c men 2 0 10;room d mixed 1 0 10;"
                + "over 50;book g 3 4 3 2 20 1;book h 3 1 1 0 20 1;book i 2 1 0 2 20 1;");
        Check.due("beds of g", beds(hostel, 0), "2: a0 a1 b0 c0 c1");
        Check.due("roomsOf(0)", hostel.roomsOf(0), 7);
        Check.due("beds of h", beds(hostel, 1), "1: b1");
        Check.due("beds of i", beds(hostel, 2), "1: b0 b1");
        Check.due("splits()", hostel.splits(), 1);
        hostel.setTogether(0, true);
        Check.due("beds of g together", beds(hostel, 0), "3:");
        Check.due("roomsOf(0)", hostel.roomsOf(0), 0);
        Check.due("splits()", hostel.splits(), 0);
    }

    private static void smallestSet() {
        // two rooms before three, and of these the smallest number: 3 (a, b) is too small, 5 (a, c), 6, 9, 10, 12 hold
        HostelBeds hostel = Check.loaded("room a mixed 2 0 90;room b mixed 2 0 1;room c mixed 3 0 1;room d mixed 4 0 1;"
                + "book g 0 1 3 2 0 0;");
        Check.due("roomsOf(0)", hostel.roomsOf(0), 5);
        Check.due("beds of g", beds(hostel, 0), "2: a0 a1 c0 c1 c2");
        // the least AGE closes room a
        HostelBeds aged = Check.loaded("room a mixed 4 18 90;room b mixed 2 0 1;room c mixed 3 17 1;book g 0 1 3 2 17 0;");
        Check.due("beds of the young", beds(aged, 0), "2: b0 b1 c0 c1 c2");
        // women cannot use room b, men cannot use room a
        HostelBeds apart = Check.loaded("room a women 9 0 1;room b men 9 0 1;room c mixed 1 0 1;book g 0 1 1 1 0 0;"
                + "book h 0 1 0 2 0 0;");
        Check.due("beds of one of each", beds(apart, 0), "2: a0 b0");
        Check.due("beds of men", beds(apart, 1), "1: b1 b2");
    }

    private static void walked() {
        HostelBeds hostel = Check.loaded("room a mixed 2 0 1;room b men 2 0 1;room c women 1 0 1;over 50;"
                + "book x 0 1 1 1 0 0 together;book y 0 1 2 0 0 0;book z 0 1 0 2 0 0 together;book w 0 2 1 0 0 0;");
        Check.due("beds of x", beds(hostel, 0), "1: a0 a1");
        Check.due("beds of y", beds(hostel, 1), "3:");
        Check.due("beds of z", beds(hostel, 2), "1: b0 b1");
        Check.due("beds of w", beds(hostel, 3), "1: c0");
        Check.due("walked(0)", hostel.walked(0), 2);
        Check.due("walked(1)", hostel.walked(1), 0);
        Check.fails("roomOf() of a walked one", NO_SUCH, () -> hostel.roomOf(1, 0));
        Check.fails("bedOf() of a walked one", NO_SUCH, () -> hostel.bedOf(1, 1));
        Check.fails("roomOf() of no person", INDEX, () -> hostel.roomOf(1, 2));
    }

    private static void bedsInOrder() {
        // women: rooms for women first, then mixed ones; men likewise; the beds with the lowest number
        HostelBeds hostel = Check.loaded("room a mixed 2 0 9;room b women 2 0 9;room c men 2 0 9;room d women 1 0 9;"
                + "room e mixed 2 0 9;book o 0 1 1 0 0 0;book p 1 1 0 1 0 0;book g 0 2 4 3 0 0;");
        Check.due("beds of o", beds(hostel, 0), "1: d0");
        Check.due("beds of g", beds(hostel, 2), "2: b0 b1 a0 a1 c0 c1 e0");
        Check.due("beds of p", beds(hostel, 1), "1: e1");
        hostel.setAbsent(0, true);
        Check.due("beds of g", beds(hostel, 2), "2: b0 b1 d0 a0 c0 c1 a1");
        Check.due("beds of p", beds(hostel, 1), "1: e0");
    }

    private static void notPlaced() {
        HostelBeds hostel = Check.loaded("room a mixed 2 0 1;book x 0 1 2 0 0 0;book y 0 1 1 0 0 0;book z 1 1 1 0 0 0;absent z;"
                + "book w 1 1 1 0 0 0;cancel w;");
        for (int booking = 1; booking < 4; booking++) {
            int b = booking;
            Check.due("beds of " + b, beds(hostel, b), "0:");
            Check.fails("roomOf(" + b + ", 0)", NO_SUCH, () -> hostel.roomOf(b, 0));
            Check.fails("bedOf(" + b + ", 0)", NO_SUCH, () -> hostel.bedOf(b, 0));
            Check.fails("bedOf(" + b + ", 1)", INDEX, () -> hostel.bedOf(b, 1));
            Check.due("extendable(" + b + ")", hostel.extendable(b), 0);
            Check.due("pays(" + b + ")", hostel.pays(b), 0);
        }
    }

    private static void nights() {
        HostelBeds hostel = Check.loaded("room a women 3 0 1;room b men 2 0 1;over 50;book x 0 3 2 2 0 0;book y 2 2 1 2 0 0;"
                + "book z 1 1 1 0 0 0;absent z;book w 27 3 1 0 0 0;");
        Check.due("placed(1)", hostel.placed(1), 3);
        int[][] due = {{1, 0, 4, 4, 0}, {1, 0, 4, 5, 0}, {1, 0, 4, 7, 3}, {3, 2, 0, 3, 3}, {3, 2, 0, 0, 0}};
        for (int night = 0; night < 5; night++) {
            Check.due("freeBeds(0, " + night + ")", hostel.freeBeds(0, night), due[night][0]);
            Check.due("freeBeds(1, " + night + ")", hostel.freeBeds(1, night), due[night][1]);
            Check.due("occupied(" + night + ")", hostel.occupied(night), due[night][2]);
            Check.due("booked(" + night + ")", hostel.booked(night), due[night][3]);
            Check.due("walked(" + night + ")", hostel.walked(night), due[night][4]);
        }
        Check.due("freeBeds(0, 29)", hostel.freeBeds(0, 29), 2);
        Check.due("occupied(29)", hostel.occupied(29), 1);
        Check.due("booked(29)", hostel.booked(29), 1);
        Check.due("freeBeds(0, 26)", hostel.freeBeds(0, 26), 3);
        Check.due("booked(0) of a waiting one", Check.loaded("book x 0 1 1 0 0 0;").booked(0), 0);
    }

    private static void fullNights() {
        HostelBeds hostel = Check.loaded("room a mixed 1 0 1;room b mixed 1 0 1;book x 0 3 1 0 0 0;book y 1 29 1 0 0 0;"
                + "book z 28 2 1 0 0 0;");
        Check.due("fullNights()", hostel.fullNights(), 4);
        hostel.setAbsent(1, true);
        Check.due("fullNights()", hostel.fullNights(), 0);
        Check.due("fullNights() without rooms", new HostelBeds().fullNights(), 0);
        Check.due("fullNights()", Check.loaded("room a men 1 0 1;book x 0 30 0 1 0 0;").fullNights(), 30);
    }

    private static void longestFree() {
        HostelBeds hostel = Check.loaded("room a mixed 2 0 1;book x 5 3 2 0 0 0;book y 20 1 1 0 0 0;book z 27 3 1 0 0 0;");
        Check.due("longestFree(0, 0)", hostel.longestFree(0, 0), 12);
        Check.due("longestFree(0, 1)", hostel.longestFree(0, 1), 22);
        HostelBeds full = Check.loaded("room a men 1 0 1;room b women 1 0 1;book x 0 30 0 1 0 0;");
        Check.due("longestFree(0, 0)", full.longestFree(0, 0), 0);
        Check.due("longestFree(1, 0)", full.longestFree(1, 0), 30);
    }

    private static void extendable() {
        HostelBeds hostel = Check.loaded("room a mixed 2 0 1;room b mixed 1 0 2;book x 0 2 2 0 0 0;book y 5 1 2 0 0 0;"
                + "book z 0 2 0 1 0 0;book w 3 1 1 0 0 0;book v 29 1 1 0 0 0;");
        Check.due("beds of w", beds(hostel, 3), "1: b0");
        Check.due("extendable(0)", hostel.extendable(0), 3);
        Check.due("extendable(1)", hostel.extendable(1), 24);
        Check.due("extendable(2)", hostel.extendable(2), 1);
        Check.due("extendable(3)", hostel.extendable(3), 25);
        Check.due("extendable(4)", hostel.extendable(4), 0);
        // one of the beds is enough to end it
        HostelBeds pair = Check.loaded("room a women 1 0 1;room b men 2 0 1;book x 0 2 1 1 0 0;book y 4 1 0 1 0 0;"
                + "book z 3 1 0 2 0 0;book w 2 1 0 2 0 0;");
        Check.due("extendable(0)", pair.extendable(0), 0);
        pair.setAbsent(3, true);
        Check.due("extendable(0)", pair.extendable(0), 1);
    }

    private static void wrongParameters() {
        HostelBeds hostel = Check.loaded("room a mixed 3 0 1;room b mixed 1 0 2;book x 0 2 2 0 0 0;");
        for (int wrong : new int[] {-1, 30, Integer.MIN_VALUE, Integer.MAX_VALUE}) {
            Check.fails("placed", INDEX, () -> hostel.placed(wrong));
            Check.fails("roomsOf", INDEX, () -> hostel.roomsOf(wrong));
            Check.fails("roomOf", INDEX, () -> hostel.roomOf(wrong, 0));
            Check.fails("roomOf", INDEX, () -> hostel.roomOf(0, wrong));
            Check.fails("bedOf", INDEX, () -> hostel.bedOf(wrong, 0));
            Check.fails("bedOf", INDEX, () -> hostel.bedOf(0, wrong));
            Check.fails("occupant", INDEX, () -> hostel.occupant(wrong, 0, 0));
            Check.fails("occupant", INDEX, () -> hostel.occupant(0, wrong, 0));
            Check.fails("occupant", INDEX, () -> hostel.occupant(0, 0, wrong));
            Check.fails("freeBeds", INDEX, () -> hostel.freeBeds(wrong, 0));
            Check.fails("freeBeds", INDEX, () -> hostel.freeBeds(0, wrong));
            Check.fails("occupied", INDEX, () -> hostel.occupied(wrong));
            Check.fails("booked", INDEX, () -> hostel.booked(wrong));
            Check.fails("walked", INDEX, () -> hostel.walked(wrong));
            Check.fails("longestFree", INDEX, () -> hostel.longestFree(wrong, 0));
            Check.fails("longestFree", INDEX, () -> hostel.longestFree(0, wrong));
            Check.fails("extendable", INDEX, () -> hostel.extendable(wrong));
        }
        Check.fails("placed(1)", INDEX, () -> hostel.placed(1));
        Check.fails("roomsOf(1)", INDEX, () -> hostel.roomsOf(1));
        Check.fails("extendable(1)", INDEX, () -> hostel.extendable(1));
        Check.fails("roomOf(0, 2)", INDEX, () -> hostel.roomOf(0, 2));
        Check.fails("bedOf(0, 2)", INDEX, () -> hostel.bedOf(0, 2));
        Check.fails("occupant(2, 0, 0)", INDEX, () -> hostel.occupant(2, 0, 0));
        // the beds of each room count
        Check.fails("occupant(1, 1, 0)", INDEX, () -> hostel.occupant(1, 1, 0));
        Check.fails("longestFree(0, 3)", INDEX, () -> hostel.longestFree(0, 3));
        Check.fails("freeBeds(2, 0)", INDEX, () -> hostel.freeBeds(2, 0));
    }

    /** Tells what became of a booking, and the beds of its persons. */
    private static String beds(HostelBeds hostel, int booking) {
        int placed = hostel.placed(booking);
        StringBuilder beds = new StringBuilder().append(placed).append(':');
        int rooms = 0;
        int persons = hostel.booking(booking, 2) + hostel.booking(booking, 3);
        for (int person = 0; person < persons && (placed == 1 || placed == 2); person++) {
            int room = hostel.roomOf(booking, person);
            int bed = hostel.bedOf(booking, person);
            rooms |= 1 << room;
            beds.append(' ').append((char) ('a' + room)).append(bed);
            Check.due("occupant", hostel.occupant(room, bed, hostel.booking(booking, 0)), booking);
        }
        Check.due("roomsOf(" + booking + ")", hostel.roomsOf(booking), rooms);
        return beds.toString();
    }
}
