/** The sentences of promises 36 to 45 that name an edge, a method each. */
public final class EditEdgesTest {
    private static final Class<IllegalArgumentException> ARGUMENT = IllegalArgumentException.class;
    private static final Class<IllegalStateException> STATE = IllegalStateException.class;
    private static final Class<IndexOutOfBoundsException> INDEX = IndexOutOfBoundsException.class;
    private static final int[] FAR = {-1, -2, 1000, 65536, Integer.MAX_VALUE, Integer.MIN_VALUE, Integer.MIN_VALUE + 1};

    public static void main(String[] args) {
        bookWithoutAName();
        bookNeitherTogetherNorAbsent();
        acceptedOrWaits();
        returnsItsNumber();
        bookOutOfRange();
        sixteenBookings();
        acceptedByCancel();
        cancelledAlready();
        absentBefore();
        togetherBefore();
        acceptedStaySo();
        overOutOfRange();
        acceptedByOver();
        walkOutOfRange();
        priceOutOfRange();
        numberThatCanStillBeUndone();
        noneToUndo();
        formatOfRooms();
        commaBetweenRooms();
        ifPersonsAreWalked();
        numberOfTheWalked();
        replacesTheText();
        lengthOfTheText();
        charactersOutOfRange();
        beforeTheFirstFormat();
        Check.finish();
    }

    private static void bookWithoutAName() {
        Check.sentence("Adds a booking without a NAME");
        HostelBeds hostel = Check.loaded("room a men 2 0 1;book x 0 1 0 1 0 0;");
        hostel.book(0, 1, 0, 1, 0, 0);
        for (String name : new String[] {"", " ", "a", "y", "\0", "1"}) {
            Check.put(hostel, name);
            Check.fails("find(false) of '" + name + "'", java.util.NoSuchElementException.class, () -> hostel.find(false));
            hostel.truncate(0);
        }
        Check.put(hostel, "x");
        Check.due("find(false) of x", hostel.find(false), 0);
        // also in the row of a booking that had one
        hostel.truncate(0);
        HostelBeds row = new HostelBeds();
        for (int turn = 0; turn < 4; turn++) {
            Check.put(row, "book x 0 1 0 1 0 0;book y 0 1 0 1 0 0;");
            row.load();
            Check.put(row, "book x 0 1 0 1 0 0;");
            row.load();
            Check.put(row, "y");
            Check.fails("find(false) of y", java.util.NoSuchElementException.class, () -> row.find(false));
            row.book(0, 1, 0, 1, 0, 0);
            Check.fails("find(false) of y", java.util.NoSuchElementException.class, () -> row.find(false));
            row.truncate(0);
            row.load();
        }
    }

    private static void bookNeitherTogetherNorAbsent() {
        Check.sentence("that need not stay together and is not absent");
        HostelBeds hostel = Check.loaded("room a men 1 0 1;room b men 1 0 1;");
        for (int turn = 0; turn < 4; turn++) {
            Check.due("book", hostel.book(turn, 1, 0, 2, 0, 0), 0);
            Check.due("together, absent", hostel.booking(0, 6) + " " + hostel.booking(0, 7), "0 0");
            Check.due("placed(0)", hostel.placed(0), 2);
            hostel.setAbsent(0, true);
            hostel.setTogether(0, true);
            hostel.undo();
            hostel.undo();
            hostel.undo();
        }
        HostelBeds text = new HostelBeds();
        for (int turn = 0; turn < 5; turn++) {
            Check.put(text, "book x 0 1 0 1 0 0 together;absent x;book y 0 1 0 1 0 0 together;absent y;");
            text.load();
            Check.put(text, "room a men 2 0 1;");
            for (int load = 0; load <= turn % 2; load++) {
                text.load();
            }
            text.book(0, 1, 0, 1, 0, 0);
            text.book(0, 1, 0, 1, 0, 0);
            Check.due("together, absent", text.booking(0, 6) + " " + text.booking(0, 7) + " " + text.booking(1, 6) + " " + text.booking(1, 7),
                    "0 0 0 0");
        }
    }

    private static void acceptedOrWaits() {
        Check.sentence("it is accepted or waits");
        HostelBeds hostel = Check.loaded("room a men 2 0 1;over 50;");
        int[] due = {1, 0, 1, 0, 1};
        int[][] told = {{0, 2}, {0, 2}, {0, 1}, {0, 1}, {1, 3}};
        for (int booking = 0; booking < 5; booking++) {
            Check.due("book", hostel.book(told[booking][0], 1, 0, told[booking][1], 0, 0), booking);
            Check.due("state(" + booking + ")", hostel.state(booking), due[booking]);
        }
        Check.due("list", hostel.count(3) + ": " + hostel.waiting(0) + " " + hostel.waiting(1), "2: 1 3");
    }

    private static void returnsItsNumber() {
        Check.sentence("Returns its number.");
        HostelBeds hostel = Check.loaded("book x 0 1 0 1 0 0;book y 0 1 0 1 0 0;cancel x;");
        for (int booking = 2; booking < 16; booking++) {
            Check.due("book", hostel.book(booking, 2, 3, 4, 50 + booking, 6), booking);
            Check.due("booking", hostel.booking(booking, 0) + " " + hostel.booking(booking, 1) + " " + hostel.booking(booking, 2) + " "
                    + hostel.booking(booking, 3) + " " + hostel.booking(booking, 4) + " " + hostel.booking(booking, 5),
                    booking + " 2 3 4 " + (50 + booking) + " 6");
        }
    }

    private static void bookOutOfRange() {
        Check.sentence("The parameters are as for wouldBe(), and chance is 0 to 100. - Throws IllegalArgumentException if a parameter is out of"
                + " range");
        int[][] right = {{0, 1, 1, 0, 0, 0}, {29, 1, 1, 0, 0, 0}, {0, 30, 1, 0, 0, 0}, {28, 2, 0, 1, 0, 0}, {0, 1, 12, 0, 0, 0}, {0, 1, 0, 12, 0, 0},
            {0, 1, 6, 6, 0, 0}, {0, 1, 1, 0, 99, 0}, {0, 1, 1, 0, 0, 100}};
        HostelBeds hostel = new HostelBeds();
        for (int i = 0; i < right.length; i++) {
            int[] r = right[i];
            Check.due("book " + i, hostel.book(r[0], r[1], r[2], r[3], r[4], r[5]), i);
        }
        int[][] wrong = {{30, 1, 1, 0, 0, 0}, {30, 0, 1, 0, 0, 0}, {0, 0, 1, 0, 0, 0}, {0, 31, 1, 0, 0, 0}, {29, 2, 1, 0, 0, 0}, {28, 3, 0, 1, 0, 0},
            {0, 1, 0, 0, 0, 0}, {0, 1, 13, 0, 0, 0}, {0, 1, 0, 13, 0, 0}, {0, 1, 12, 1, 0, 0}, {0, 1, 1, 12, 0, 0}, {0, 1, 6, 7, 0, 0},
            {0, 1, 13, -1, 0, 0}, {0, 1, -1, 13, 0, 0}, {0, 1, 1, 0, 100, 0}, {0, 1, 1, 0, 0, 101}};
        for (int[] w : wrong) {
            Check.fails("book", ARGUMENT, () -> hostel.book(w[0], w[1], w[2], w[3], w[4], w[5]));
        }
        for (int parameter = 0; parameter < 6; parameter++) {
            for (int far : FAR) {
                int[] w = {0, 1, 1, 1, 0, 0};
                w[parameter] = far;
                Check.fails("book with " + far + " at " + parameter, ARGUMENT, () -> hostel.book(w[0], w[1], w[2], w[3], w[4], w[5]));
            }
        }
        Check.due("count(2)", hostel.count(2), right.length);
    }

    private static void sixteenBookings() {
        Check.sentence("Throws IllegalStateException if there are 16 bookings");
        StringBuilder text = new StringBuilder();
        for (char name = 'a'; name < 'p'; name++) {
            text.append("book ").append(name).append(" 0 1 1 0 0 0;");
        }
        HostelBeds fifteen = Check.loaded(text.toString());
        Check.due("book", fifteen.book(0, 1, 1, 0, 0, 0), 15);
        Check.fails("book", STATE, () -> fifteen.book(0, 1, 1, 0, 0, 0));
        fifteen.cancel(3);
        Check.fails("book behind cancel()", STATE, () -> fifteen.book(0, 1, 1, 0, 0, 0));
        fifteen.undo();
        fifteen.undo();
        Check.due("book behind undo()", fifteen.book(0, 1, 1, 0, 0, 0), 15);
        Check.due("count(2)", fifteen.count(2), 16);
        HostelBeds sixteen = Check.loaded(text + "book z 0 1 1 0 0 0;");
        Check.fails("book", STATE, () -> sixteen.book(0, 1, 1, 0, 0, 0));
        Check.put(sixteen, "");
        sixteen.load();
        Check.due("book behind load()", sixteen.book(0, 1, 1, 0, 0, 0), 0);
    }

    private static void acceptedByCancel() {
        Check.sentence("Returns how many bookings of the waiting list are accepted by this. - cancel()");
        for (int waiting = 0; waiting <= 15; waiting++) {
            HostelBeds hostel = Check.loaded("room a men 10 0 1;");
            hostel.book(0, 30, 0, 10, 0, 0);
            for (int booking = 1; booking <= waiting; booking++) {
                hostel.book(booking % 3, 1, 0, 4, 0, 0);
            }
            // in each night two of them
            Check.due("cancel(0) with " + waiting, hostel.cancel(0), Math.min(waiting, 6));
            Check.due("count(3)", hostel.count(3), Math.max(waiting - 6, 0));
            Check.due("state(0)", hostel.state(0), 2);
        }
    }

    private static void cancelledAlready() {
        Check.sentence("Throws IllegalStateException if it is cancelled already");
        HostelBeds hostel = Check.loaded("room a men 2 0 1;book x 0 1 0 2 0 0;book y 0 1 0 1 0 0;book z 0 1 0 1 0 0;cancel z;absent x;");
        Check.fails("cancel(2)", STATE, () -> hostel.cancel(2));
        Check.due("cancel(0)", hostel.cancel(0), 1);
        Check.fails("cancel(0)", STATE, () -> hostel.cancel(0));
        Check.due("cancel(1)", hostel.cancel(1), 0);
        Check.fails("cancel(1)", STATE, () -> hostel.cancel(1));
        hostel.undo();
        Check.due("cancel(1)", hostel.cancel(1), 0);
        hostel.undo();
        hostel.undo();
        Check.due("cancel(0)", hostel.cancel(0), 1);
        Check.fails("cancel(2)", STATE, () -> hostel.cancel(2));
        Check.due("booked(0)", hostel.booked(0), 1);
    }

    private static void absentBefore() {
        Check.sentence("setAbsent: whether it was absent before");
        HostelBeds hostel = Check.loaded("room a men 2 0 1;book x 0 1 0 2 0 0;book y 0 1 0 1 0 0;absent y;book z 0 1 0 1 0 0;cancel z;");
        // accepted, waiting, cancelled
        boolean[] was = {false, true, false};
        for (int booking = 0; booking < 3; booking++) {
            Check.due("absent as told", hostel.setAbsent(booking, true), was[booking]);
            Check.due("absent twice", hostel.setAbsent(booking, true), true);
            Check.due("booking(" + booking + ", 7)", hostel.booking(booking, 7), 1);
            Check.due("no longer", hostel.setAbsent(booking, false), true);
            Check.due("not twice", hostel.setAbsent(booking, false), false);
            Check.due("booking(" + booking + ", 7)", hostel.booking(booking, 7), 0);
            Check.due("state(" + booking + ")", hostel.state(booking), booking == 0 ? 1 : booking == 1 ? 0 : 2);
        }
        Check.due("placed(0)", hostel.placed(0), 1);
    }

    private static void togetherBefore() {
        Check.sentence("setTogether: whether it had to before");
        HostelBeds hostel = Check.loaded("room a men 1 0 1;room b men 1 0 1;book x 0 1 0 2 0 0;book y 0 1 0 1 0 0 together;book z 0 1 0 1 0 0;cancel z;");
        boolean[] had = {false, true, false};
        for (int booking = 0; booking < 3; booking++) {
            Check.due("together as told", hostel.setTogether(booking, true), had[booking]);
            Check.due("together twice", hostel.setTogether(booking, true), true);
            Check.due("booking(" + booking + ", 6)", hostel.booking(booking, 6), 1);
            Check.due("no longer", hostel.setTogether(booking, false), true);
            Check.due("not twice", hostel.setTogether(booking, false), false);
            Check.due("booking(" + booking + ", 6)", hostel.booking(booking, 6), 0);
        }
        Check.due("placed(0)", hostel.placed(0), 2);
        hostel.setTogether(0, true);
        Check.due("placed(0)", hostel.placed(0), 3);
    }

    private static void acceptedStaySo() {
        Check.sentence("(Bookings that are accepted stay so.)");
        HostelBeds hostel = Check.loaded("room a men 10 0 1;over 50;book x 0 1 0 8 0 0;book y 0 1 0 7 0 0;");
        Check.due("states", hostel.state(0) + " " + hostel.state(1), "1 1");
        Check.due("setOver(0)", hostel.setOver(0), 0);
        Check.due("states", hostel.state(0) + " " + hostel.state(1), "1 1");
        Check.due("booked(0)", hostel.booked(0), 15);
        Check.due("book", hostel.state(hostel.book(0, 1, 0, 1, 0, 0)), 0);
        hostel.cancel(1);
        Check.due("state(2)", hostel.state(2), 1);
    }

    private static void overOutOfRange() {
        Check.sentence("percent: 0 to 50 - Throws IllegalArgumentException if percent is out of range");
        HostelBeds hostel = Check.loaded("over 7;");
        Check.fails("setOver(51)", ARGUMENT, () -> hostel.setOver(51));
        for (int wrong : FAR) {
            Check.fails("setOver(" + wrong + ")", ARGUMENT, () -> hostel.setOver(wrong));
        }
        Check.due("setting(0)", hostel.setting(0), 7);
        for (int percent = 0; percent <= 50; percent++) {
            hostel.setOver(percent);
            Check.due("setting(0)", hostel.setting(0), percent);
        }
    }

    private static void acceptedByOver() {
        Check.sentence("Returns how many bookings of the waiting list are accepted by this. - setOver()");
        for (int percent = 0; percent <= 50; percent++) {
            HostelBeds hostel = Check.loaded("room a men 10 0 1;book x 0 1 0 10 0 0;book y 0 1 0 1 0 0;book z 0 1 0 1 0 0;book w 0 1 0 1 0 0;"
                    + "book v 0 1 0 1 0 0;book u 0 1 0 1 0 0;");
            Check.due("setOver(" + percent + ")", hostel.setOver(percent), percent / 10);
            Check.due("count(3)", hostel.count(3), 5 - percent / 10);
        }
    }

    private static void walkOutOfRange() {
        Check.sentence("cost: 0 to 300 - Throws IllegalArgumentException if cost is out of range - Returns the previous one");
        HostelBeds hostel = Check.loaded("walk 7;");
        Check.fails("setWalk(301)", ARGUMENT, () -> hostel.setWalk(301));
        for (int wrong : FAR) {
            Check.fails("setWalk(" + wrong + ")", ARGUMENT, () -> hostel.setWalk(wrong));
        }
        Check.due("setting(1)", hostel.setting(1), 7);
        int before = 7;
        for (int cost = 0; cost <= 300; cost += cost < 3 || cost > 297 ? 1 : 5) {
            Check.due("setWalk(" + cost + ")", hostel.setWalk(cost), before);
            Check.due("setting(1)", hostel.setting(1), cost);
            before = cost;
        }
        Check.due("the last one", before, 300);
    }

    private static void priceOutOfRange() {
        Check.sentence("price: 1 to 200 - Throws IllegalArgumentException if price is out of range - Returns the previous one");
        HostelBeds hostel = Check.loaded("room a men 1 0 7;room b men 1 0 8;");
        for (int room = 0; room < 2; room++) {
            int r = room;
            Check.fails("setPrice(0)", ARGUMENT, () -> hostel.setPrice(r, 0));
            Check.fails("setPrice(201)", ARGUMENT, () -> hostel.setPrice(r, 201));
            for (int wrong : FAR) {
                Check.fails("setPrice(" + wrong + ")", ARGUMENT, () -> hostel.setPrice(r, wrong));
            }
            Check.due("setPrice(200)", hostel.setPrice(room, 200), 7 + room);
            Check.due("setPrice(1)", hostel.setPrice(room, 1), 200);
            Check.due("setPrice(100)", hostel.setPrice(room, 100), 1);
            Check.due("room(" + room + ", 3)", hostel.room(room, 3), 100);
            Check.due("the other", hostel.room(1 - room, 3), room == 0 ? 8 : 100);
        }
    }

    private static void numberThatCanStillBeUndone() {
        Check.sentence("Returns the number of edits that can still be undone.");
        for (int edits = 1; edits <= 25; edits++) {
            HostelBeds hostel = Check.loaded("room a men 10 0 1;");
            for (int edit = 0; edit < edits; edit++) {
                hostel.setOver(edit);
            }
            for (int left = Math.min(edits, 10) - 1; left >= 0; left--) {
                Check.due("undo() of " + edits, hostel.undo(), left);
            }
        }
    }

    private static void noneToUndo() {
        Check.sentence("undo: Throws IllegalStateException if there is none");
        HostelBeds hostel = new HostelBeds();
        Check.fails("undo() of a new one", STATE, hostel::undo);
        hostel.load();
        Check.fails("undo() behind load()", STATE, hostel::undo);
        hostel.setWalk(5);
        hostel.undo();
        Check.fails("undo() behind the only one", STATE, hostel::undo);
        Check.fails("undo() again", STATE, hostel::undo);
        Check.due("setting(1)", hostel.setting(1), 60);
        hostel.setWalk(6);
        Check.due("undo()", hostel.undo(), 0);
    }

    private static void formatOfRooms() {
        Check.sentence("for each room, in order, its NAME, \" \", the number of its beds that someone has, \"/\" and its BEDS");
        for (int persons = 1; persons <= 10; persons++) {
            HostelBeds hostel = Check.loaded("room abcdefgh men 10 0 1;room z women " + persons + " 0 1;book x 5 2 0 " + persons + " 0 0;");
            String free = "abcdefgh 0/10, z 0/" + persons;
            formats(hostel, 4, free);
            formats(hostel, 5, "abcdefgh " + persons + "/10, z 0/" + persons);
            formats(hostel, 6, "abcdefgh " + persons + "/10, z 0/" + persons);
            formats(hostel, 7, free);
        }
    }

    private static void commaBetweenRooms() {
        Check.sentence("with \", \" between two rooms");
        StringBuilder text = new StringBuilder();
        StringBuilder due = new StringBuilder();
        formats(new HostelBeds(), 0, "");
        for (char name = 'a'; name < 'i'; name++) {
            text.append("room name").append(name).append(" men 3 0 1;");
            due.append(due.length() == 0 ? "" : ", ").append("name").append(name).append(" 0/3");
            formats(Check.loaded(text.toString()), 29, due.toString());
        }
    }

    private static void ifPersonsAreWalked() {
        Check.sentence("then, if persons are walked in this night, \" +\" and their number");
        for (int persons = 1; persons <= 12; persons++) {
            HostelBeds hostel = Check.loaded("room a men 9 0 1;room b men 9 0 1;book x 5 2 " + persons + " 0 0 0;");
            formats(hostel, 4, "a 0/9, b 0/9");
            formats(hostel, 5, "a 0/9, b 0/9 +" + persons);
            formats(hostel, 6, "a 0/9, b 0/9 +" + persons);
            formats(hostel, 7, "a 0/9, b 0/9");
            hostel.setAbsent(0, true);
            formats(hostel, 5, "a 0/9, b 0/9");
        }
        StringBuilder text = new StringBuilder("over 50;");
        for (char name = 'a'; name < 'i'; name++) {
            text.append("room ").append(name).append(" men 10 99 1;");
        }
        for (int groups = 1; groups <= 10; groups++) {
            HostelBeds most = Check.loaded(text.toString());
            for (int group = 0; group < groups; group++) {
                most.book(0, 1, 12, 0, 0, 0);
            }
            formats(most, 0, "a 0/10, b 0/10, c 0/10, d 0/10, e 0/10, f 0/10, g 0/10, h 0/10 +" + groups * 12);
        }
    }

    private static void numberOfTheWalked() {
        Check.sentence("\" +\" and their number - of one, two and three digits");
        for (int women = 1; women <= 12; women++) {
            HostelBeds hostel = Check.loaded("over 50;room a men 10 0 1;room b men 10 0 1;room c men 10 0 1;room d men 10 0 1;room e men 10 0 1;"
                    + "room f men 10 0 1;room g men 10 0 1;room h men 10 0 1;");
            for (int group = 0; group < 8; group++) {
                hostel.book(0, 1, 12, 0, 0, 0);
            }
            hostel.book(0, 1, women, 0, 0, 0);
            formats(hostel, 0, "a 0/10, b 0/10, c 0/10, d 0/10, e 0/10, f 0/10, g 0/10, h 0/10 +" + (96 + women));
        }
    }

    private static void replacesTheText() {
        Check.sentence("The text replaces the previous formatted text.");
        HostelBeds hostel = Check.loaded("room a men 10 0 1;book x 0 1 0 10 0 0;book y 1 1 9 0 0 0;");
        formats(hostel, 1, "a 0/10 +9");
        formats(hostel, 0, "a 10/10");
        formats(hostel, 2, "a 0/10");
        formats(hostel, 1, "a 0/10 +9");
        Check.put(hostel, "");
        hostel.load();
        Check.due("before format()", Check.formatted(hostel, 9), "a 0/10 +9");
        formats(hostel, 0, "");
    }

    private static void lengthOfTheText() {
        Check.sentence("Returns the length of the text. - 0 and the greatest one");
        Check.due("without rooms", new HostelBeds().format(29), 0);
        StringBuilder text = new StringBuilder("over 50;");
        for (char name = 'a'; name < 'i'; name++) {
            text.append("room abcdefg").append(name).append(" mixed 10 ").append(name == 'a' ? 99 : 0).append(" 1;");
        }
        HostelBeds hostel = Check.loaded(text.toString());
        for (int group = 0; group < 7; group++) {
            hostel.book(0, 1, 5, 5, 0, 0);
        }
        hostel.book(0, 1, 5, 5, 99, 0);
        hostel.book(0, 1, 12, 0, 0, 0);
        formats(hostel, 0, "abcdefga 10/10, abcdefgb 10/10, abcdefgc 10/10, abcdefgd 10/10, abcdefge 10/10, abcdefgf 10/10, abcdefgg 10/10,"
                + " abcdefgh 10/10 +12");
    }

    private static void charactersOutOfRange() {
        Check.sentence("index: 0 to the length of the formatted text minus 1 - Throws IndexOutOfBoundsException if there is no such character");
        HostelBeds hostel = Check.loaded("room a men 10 0 1;");
        Check.due("format(0)", hostel.format(0), 6);
        Check.due("first", hostel.formattedCharacter(0), 'a');
        Check.due("last", hostel.formattedCharacter(5), '0');
        Check.fails("formattedCharacter(6)", INDEX, () -> hostel.formattedCharacter(6));
        for (int wrong : FAR) {
            Check.fails("formattedCharacter(" + wrong + ")", INDEX, () -> hostel.formattedCharacter(wrong));
        }
        // an empty text has none, also behind a longer one
        Check.put(hostel, "");
        hostel.load();
        Check.due("format(0)", hostel.format(0), 0);
        Check.fails("formattedCharacter(0)", INDEX, () -> hostel.formattedCharacter(0));
    }

    private static void beforeTheFirstFormat() {
        Check.sentence("(also before the first format())");
        HostelBeds hostel = Check.loaded("room a men 10 0 1;");
        Check.fails("formattedCharacter(0)", INDEX, () -> hostel.formattedCharacter(0));
        Check.fails("format(30)", INDEX, () -> hostel.format(30));
        Check.fails("formattedCharacter(0)", INDEX, () -> hostel.formattedCharacter(0));
        Check.fails("formattedCharacter(-1)", INDEX, () -> hostel.formattedCharacter(-1));
        Check.fails("formattedCharacter(0) of a new one", INDEX, () -> new HostelBeds().formattedCharacter(0));
    }

    private static void formats(HostelBeds hostel, int night, String due) {
        int length = hostel.format(night);
        Check.due("format(" + night + ")", length, due.length());
        Check.due("text of format(" + night + ")", Check.formatted(hostel, length), due);
    }
}
