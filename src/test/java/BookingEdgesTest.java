/** The sentences of 'BOOKINGS' that name an edge, a method each. */
public final class BookingEdgesTest {
    public static void main(String[] args) {
        atMostTheBeds();
        withoutRooms();
        eachOfItsNights();
        onlyItsNights();
        absentOnesCount();
        walkedOnesCount();
        othersDoNotCount();
        endOfTheList();
        behindEachCancellation();
        cancellationOfOneThatWaits();
        behindEachSetOver();
        notBehindOverAndRoom();
        notBehindOtherCalls();
        fromItsBeginning();
        eachThatCanBe();
        leavesTheList();
        states();
        Check.finish();
    }

    private static void atMostTheBeds() {
        Check.sentence("are at most the beds of all rooms * (100 + over) / 100, rounded down");
        for (int beds : new int[] {1, 2, 3, 4, 5, 6, 7, 8, 9, 10, 13, 20, 37, 80}) {
            StringBuilder rooms = new StringBuilder();
            for (int room = 0; room * 10 < beds; room++) {
                rooms.append("room ").append((char) ('a' + room)).append(" men ").append(Math.min(beds - room * 10, 10))
                        .append(" 0 1;");
            }
            for (int over = 0; over <= 50; over++) {
                fillUp(Check.loaded("over " + over + ";" + rooms), beds, beds * (100 + over) / 100);
            }
        }
    }

    /** So many persons are accepted in one night, and no one more. */
    private static void fillUp(HostelBeds hostel, int beds, int most) {
        String where = beds + " beds, over " + hostel.setting(0) + ": ";
        Check.due(where + "beds", hostel.count(1), beds);
        int one = hostel.book(7, 1, 12, 0, 0, 0);
        Check.due(where + "12 persons", hostel.state(one), most >= 12 ? 1 : 0);
        int told = most >= 12 ? 12 : 0;
        while (most - told > 12) {
            Check.due(where + "12 more", hostel.state(hostel.book(7, 1, 6, 6, 0, 0)), 1);
            told += 12;
        }
        if (most - told < 12) {
            Check.due(where + "one too many", hostel.state(hostel.book(7, 1, 0, most - told + 1, 0, 0)), 0);
        }
        if (most > told) {
            Check.due(where + "the last ones", hostel.state(hostel.book(7, 1, most - told, 0, 0, 0)), 1);
        }
        Check.due(where + "booked", hostel.booked(7), most);
        Check.due(where + "one more", hostel.state(hostel.book(7, 1, 1, 0, 0, 0)), 0);
        Check.due(where + "the night behind", hostel.state(hostel.book(8, 1, 1, 0, 0, 0)), 1);
    }

    private static void withoutRooms() {
        Check.sentence("at most the beds of all rooms - there may be none");
        HostelBeds hostel = Check.loaded("over 50;book x 0 1 1 0 0 0;");
        Check.due("told", hostel.state(0), 0);
        Check.due("booked", hostel.state(hostel.book(29, 1, 0, 1, 0, 0)), 0);
        Check.due("setOver(50)", hostel.setOver(50), 0);
        Check.due("count(4)", hostel.count(4), 0);
    }

    private static void eachOfItsNights() {
        Check.sentence("if for each of its nights");
        for (int full = 10; full < 20; full++) {
            HostelBeds hostel = Check.loaded("room a men 2 0 1;");
            hostel.book(full, 1, 0, 2, 0, 0);
            Check.due("night " + full + " is full", hostel.state(hostel.book(10, 10, 0, 1, 0, 0)), 0);
        }
        // 2 in the first night and 2 in the last one are no 4
        HostelBeds hostel = Check.loaded("room a men 3 0 1;book x 0 1 0 2 0 0;book y 1 1 0 2 0 0;book z 0 2 0 1 0 0;");
        Check.due("two nights", hostel.state(2), 1);
        HostelBeds last = Check.loaded("room a men 3 0 1;book x 29 1 0 3 0 0;book y 0 30 0 1 0 0;book z 0 29 0 1 0 0;");
        Check.due("the last night", last.state(1) + " " + last.state(2), "0 1");
        HostelBeds first = Check.loaded("room a men 3 0 1;book x 0 1 0 3 0 0;book y 0 30 0 1 0 0;book z 1 29 0 1 0 0;");
        Check.due("the first night", first.state(1) + " " + first.state(2), "0 1");
    }

    private static void onlyItsNights() {
        Check.sentence("all accepted bookings that stay in this night");
        HostelBeds hostel = Check.loaded("room a men 2 0 1;book x 3 4 0 2 0 0;book y 2 1 0 2 0 0;book z 7 1 0 2 0 0;"
                + "book w 0 2 0 2 0 0;book v 8 22 0 2 0 0;");
        Check.due("count(4)", hostel.count(4), 5);
        Check.due("behind the last night", hostel.state(hostel.book(6, 1, 0, 1, 0, 0)), 0);
    }

    private static void absentOnesCount() {
        Check.sentence("the persons of all accepted bookings (also absent ones)");
        HostelBeds told = Check.loaded("room a men 2 0 1;book x 0 1 0 2 0 0;absent x;book y 0 1 0 1 0 0;");
        Check.due("absent in the text", told.state(1), 0);
        HostelBeds hostel = Check.loaded("room a men 2 0 1;book x 0 1 0 2 0 0;");
        hostel.setAbsent(0, true);
        Check.due("setAbsent()", hostel.state(hostel.book(0, 1, 0, 1, 0, 0)), 0);
        // and an absent one is accepted, or waits, like another
        Check.due("waits", Check.loaded("book x 0 1 1 0 0 0;absent x;").state(0), 0);
        HostelBeds late = Check.loaded("room a men 2 0 1;book x 0 1 0 2 0 0;book y 0 1 0 2 0 0;absent y;book z 0 1 0 1 0 0;cancel x;");
        Check.due("from the list", late.state(1) + " " + late.state(2), "1 0");
    }

    private static void walkedOnesCount() {
        Check.sentence("the persons of all accepted bookings - walked ones too");
        HostelBeds hostel = Check.loaded("room a men 3 0 1;book x 0 1 2 0 0 0;book y 0 1 0 2 0 0;book z 0 1 0 1 0 0;");
        Check.due("x", hostel.placed(0), 3);
        Check.due("states", hostel.state(1) + " " + hostel.state(2), "0 1");
    }

    private static void othersDoNotCount() {
        Check.sentence("the persons of all accepted bookings - not of those that wait or are cancelled");
        HostelBeds hostel = Check.loaded("room a men 2 0 1;book x 0 1 0 3 0 0;book y 0 1 0 1 0 0;cancel y;book z 0 1 0 2 0 0;");
        Check.due("z", hostel.state(2), 1);
        hostel.cancel(2);
        Check.due("behind cancel()", hostel.state(hostel.book(0, 1, 0, 2, 0, 0)), 1);
    }

    private static void endOfTheList() {
        Check.sentence("otherwise it is put at the end of the waiting list");
        HostelBeds hostel = Check.loaded("room a men 1 0 1;book x 0 1 0 2 0 0;book y 0 1 0 1 0 0;book z 0 1 0 3 0 0;");
        Check.due("list", list(hostel), "0 2");
        hostel.book(0, 1, 1, 0, 0, 0);
        Check.due("list", list(hostel), "0 2 3");
        hostel.book(1, 1, 1, 0, 0, 0);
        Check.due("list", list(hostel), "0 2 3");
        hostel.book(1, 1, 1, 0, 0, 0);
        Check.due("list", list(hostel), "0 2 3 5");
        // all 16 can wait
        HostelBeds all = new HostelBeds();
        StringBuilder due = new StringBuilder();
        for (int booking = 0; booking < 16; booking++) {
            all.book(booking, 1, 1, 0, 0, 0);
            due.append(booking == 0 ? "" : " ").append(booking);
            Check.due("list", list(all), due.toString());
        }
    }

    private static String list(HostelBeds hostel) {
        StringBuilder list = new StringBuilder();
        int waiting = hostel.count(3);
        for (int place = 0; place < waiting; place++) {
            list.append(place == 0 ? "" : " ").append(hostel.waiting(place));
        }
        Check.fails("waiting(" + waiting + ")", IndexOutOfBoundsException.class, () -> hostel.waiting(waiting));
        return list.toString();
    }

    private static void behindEachCancellation() {
        Check.sentence("Behind each cancellation the waiting list is gone through");
        String text = "room a men 2 0 1;book x 0 1 0 2 0 0;book y 0 1 0 1 0 0;";
        HostelBeds hostel = Check.loaded(text);
        Check.due("before", hostel.state(1), 0);
        Check.due("cancel(0)", hostel.cancel(0), 1);
        Check.due("behind cancel()", hostel.state(1), 1);
        Check.due("behind the statement", Check.loaded(text + "cancel x;").state(1), 1);
        HostelBeds twice = Check.loaded(text + "book z 0 1 0 2 0 0;cancel x;cancel y;");
        Check.due("behind the second", twice.state(2), 1);
    }

    private static void cancellationOfOneThatWaits() {
        Check.sentence("also of a booking that waits, which leaves the list");
        String text = "room a men 2 0 1;book x 0 1 0 2 0 0;book y 0 1 0 1 0 0;book z 0 1 0 1 0 0;book w 0 1 0 1 0 0;";
        HostelBeds first = Check.loaded(text + "cancel y;");
        Check.due("list", list(first), "2 3");
        HostelBeds middle = Check.loaded(text + "cancel z;");
        Check.due("list", list(middle), "1 3");
        HostelBeds last = Check.loaded(text + "cancel w;");
        Check.due("list", list(last), "1 2");
        Check.due("state", last.state(3), 2);
        Check.due("cancel(1)", last.cancel(1), 0);
        Check.due("list", list(last), "2");
        Check.due("cancel(2)", last.cancel(2), 0);
        Check.due("list", list(last), "");
        Check.due("booked", last.booked(0), 2);
        // a room told later has beds for those behind it
        String late = "book x 0 1 0 2 0 0;book y 0 1 0 1 0 0;book z 0 1 0 1 0 0;room a men 2 0 1;";
        Check.due("list", list(Check.loaded(late + "cancel x;")), "");
        HostelBeds hostel = Check.loaded(late);
        Check.due("cancel(1)", hostel.cancel(1), 1);
        Check.due("list", list(hostel), "2");
        Check.due("x", hostel.state(0), 1);
    }

    private static void behindEachSetOver() {
        Check.sentence("and behind each setOver()");
        HostelBeds hostel = Check.loaded("room a men 10 0 1;book x 0 1 0 10 0 0;book y 0 1 0 2 0 0;");
        Check.due("setOver(19)", hostel.setOver(19), 0);
        Check.due("list", list(hostel), "1");
        Check.due("setOver(20)", hostel.setOver(20), 1);
        Check.due("list", list(hostel), "");
        Check.due("placed(1)", hostel.placed(1) + " " + hostel.walked(0), "3 2");
        // also if the percent stays
        HostelBeds late = Check.loaded("book x 0 1 0 1 0 0;room a men 1 0 1;over 5;");
        Check.due("list", list(late), "0");
        Check.due("setOver(5)", late.setOver(5), 1);
        Check.due("list", list(late), "");
    }

    private static void notBehindOverAndRoom() {
        Check.sentence("but not behind the statements \"over\" and \"room\" of the text");
        String book = "room a men 2 0 1;book x 0 1 0 2 0 0;book y 0 1 0 1 0 0;";
        Check.due("over", list(Check.loaded(book + "over 50;")), "1");
        Check.due("room", list(Check.loaded(book + "room b men 10 0 1;")), "1");
        Check.due("both", list(Check.loaded(book + "room b men 10 0 1;over 50;over 0;walk 5;offer 2 3;absent x;")), "1");
        Check.due("both, cancel", list(Check.loaded(book + "room b men 10 0 1;book z 0 1 1 0 0 0;cancel z;")), "");
    }

    private static void notBehindOtherCalls() {
        Check.sentence("Behind each cancellation, and behind each setOver() - behind nothing else");
        HostelBeds hostel = Check.loaded("book x 0 1 0 1 0 0;book y 0 1 0 1 0 0;room a men 5 0 1;");
        hostel.setAbsent(0, true);
        hostel.setAbsent(0, false);
        hostel.setTogether(0, true);
        hostel.setWalk(1);
        hostel.setPrice(0, 2);
        Check.due("book()", hostel.book(0, 1, 0, 1, 0, 0), 2);
        Check.due("state(2)", hostel.state(2), 1);
        Check.due("list behind book()", list(hostel), "0 1");
        hostel.undo();
        Check.due("list behind undo()", list(hostel), "0 1");
        hostel.wouldBe(0, 1, 0, 1, 0);
        hostel.netWithout(0);
        hostel.bestOver();
        Check.due("list", list(hostel), "0 1");
    }

    private static void fromItsBeginning() {
        Check.sentence("is gone through once from its beginning");
        String text = "room a men 3 0 1;book x 0 1 0 3 0 0;book y 0 1 0 2 0 0;book z 0 1 0 3 0 0;book w 0 1 0 2 0 0;book v 0 1 0 1 0 0;";
        HostelBeds hostel = Check.loaded(text);
        Check.due("list", list(hostel), "1 2 3 4");
        Check.due("cancel(0)", hostel.cancel(0), 2);
        Check.due("list", list(hostel), "2 3");
        Check.due("states", hostel.state(1) + " " + hostel.state(4), "1 1");
        Check.due("cancel(1)", hostel.cancel(1), 1);
        Check.due("list", list(hostel), "2");
    }

    private static void eachThatCanBe() {
        Check.sentence("each booking that can be accepted then is accepted");
        HostelBeds hostel = Check.loaded("room a men 3 0 1;book x 0 5 0 3 0 0;book y 0 2 0 3 0 0;book z 1 1 0 1 0 0;book w 2 1 0 3 0 0;"
                + "book v 2 2 0 1 0 0;book u 3 2 0 3 0 0;");
        Check.due("list", list(hostel), "1 2 3 4 5");
        Check.due("cancel(0)", hostel.cancel(0), 3);
        Check.due("list", list(hostel), "2 4");
        Check.due("nothing to accept", Check.loaded("room a men 3 0 1;book x 0 5 0 3 0 0;").cancel(0), 0);
    }

    private static void leavesTheList() {
        Check.sentence("and leaves the list");
        HostelBeds hostel = Check.loaded("room a men 2 0 1;book x 0 1 0 2 0 0;book y 0 1 0 2 0 0;book z 0 1 0 2 0 0;cancel x;");
        Check.due("list", list(hostel), "2");
        Check.due("booked", hostel.booked(0), 2);
        Check.due("setOver(0)", hostel.setOver(0), 0);
        Check.due("booked", hostel.booked(0), 2);
        Check.due("cancel(1)", hostel.cancel(1), 1);
        Check.due("list", list(hostel), "");
        Check.due("cancel(2)", hostel.cancel(2), 0);
        Check.due("booked", hostel.booked(0), 0);
    }

    private static void states() {
        Check.sentence("The state of a booking is 0 if it waits, 1 if it is accepted, 2 if it is cancelled.");
        HostelBeds hostel = Check.loaded("room a men 2 0 1;book x 0 1 0 2 0 0;book y 0 1 0 1 0 0;book z 0 1 0 1 0 0;cancel z;");
        Check.due("states", hostel.state(0) + " " + hostel.state(1) + " " + hostel.state(2), "1 0 2");
        Check.due("counts", hostel.count(3) + " " + hostel.count(4) + " " + hostel.count(5), "1 1 1");
        hostel.cancel(0);
        Check.due("states", hostel.state(0) + " " + hostel.state(1) + " " + hostel.state(2), "2 1 2");
        hostel.undo();
        Check.due("states", hostel.state(0) + " " + hostel.state(1) + " " + hostel.state(2), "1 0 2");
    }
}
