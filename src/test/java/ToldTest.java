import java.util.NoSuchElementException;

/** Promises 6 to 12: count, setting, room, booking, find, state, waiting. */
public final class ToldTest {
    private static final Class<IllegalArgumentException> ARGUMENT = IllegalArgumentException.class;
    private static final Class<IndexOutOfBoundsException> INDEX = IndexOutOfBoundsException.class;
    private static final Class<NoSuchElementException> NO_SUCH = NoSuchElementException.class;

    // 9 beds * 120 / 100 = 10 persons in a night
    private static final String TEXT = "room ab women 3 18 20;room abc men 2 0 30;room c mixed 4 5 25;"
            + "over 20;walk 45;offer 5 25;book x 0 5 2 0 30 90;book y 0 2 0 3 20 50 together;"
            + "book abc 1 1 4 4 6 80;book w 2 3 1 1 40 0;cancel y;book v 1 2 1 0 9 10;absent w;";

    public static void main(String[] args) {
        numbers();
        find();
        states();
        waiting();
        accepting();
        Check.finish();
    }

    private static void numbers() {
        HostelBeds hostel = Check.loaded(TEXT);
        int[] counts = {3, 9, 5, 1, 3, 1};
        for (int what = 0; what < 6; what++) {
            Check.due("count(" + what + ")", hostel.count(what), counts[what]);
        }
        int[] settings = {20, 45, 5, 25};
        for (int which = 0; which < 4; which++) {
            Check.due("setting(" + which + ")", hostel.setting(which), settings[which]);
        }
        int[][] rooms = {{1, 3, 18, 20}, {2, 2, 0, 30}, {0, 4, 5, 25}};
        for (int room = 0; room < 3; room++) {
            for (int what = 0; what < 4; what++) {
                Check.due("room(" + room + ", " + what + ")", hostel.room(room, what), rooms[room][what]);
            }
        }
        int[][] bookings = {{0, 5, 2, 0, 30, 90, 0, 0}, {0, 2, 0, 3, 20, 50, 1, 0}, {1, 1, 4, 4, 6, 80, 0, 0},
            {2, 3, 1, 1, 40, 0, 0, 1}, {1, 2, 1, 0, 9, 10, 0, 0}};
        for (int booking = 0; booking < 5; booking++) {
            for (int what = 0; what < 8; what++) {
                Check.due("booking(" + booking + ", " + what + ")", hostel.booking(booking, what), bookings[booking][what]);
            }
        }
        for (int wrong : new int[] {-1, Integer.MIN_VALUE, 8, Integer.MAX_VALUE}) {
            Check.fails("count(" + wrong + ")", ARGUMENT, () -> hostel.count(wrong));
            Check.fails("setting(" + wrong + ")", ARGUMENT, () -> hostel.setting(wrong));
            Check.fails("room(0, " + wrong + ")", ARGUMENT, () -> hostel.room(0, wrong));
            Check.fails("room(" + wrong + ", 0)", INDEX, () -> hostel.room(wrong, 0));
            Check.fails("room(" + wrong + ", 9)", INDEX, () -> hostel.room(wrong, 9));
            Check.fails("booking(0, " + wrong + ")", ARGUMENT, () -> hostel.booking(0, wrong));
            Check.fails("booking(" + wrong + ", 0)", INDEX, () -> hostel.booking(wrong, 0));
            Check.fails("booking(" + wrong + ", 9)", INDEX, () -> hostel.booking(wrong, 9));
        }
        Check.fails("count(6)", ARGUMENT, () -> hostel.count(6));
        Check.fails("setting(4)", ARGUMENT, () -> hostel.setting(4));
        Check.fails("room(3, 0)", INDEX, () -> hostel.room(3, 0));
        Check.fails("room(0, 4)", ARGUMENT, () -> hostel.room(0, 4));
        Check.fails("booking(5, 0)", INDEX, () -> hostel.booking(5, 0));
    }

    private static void find() {
        HostelBeds hostel = Check.loaded(TEXT + "room longname men 1 0 1;");
        found(hostel, "ab", 0, -1);
        found(hostel, "abc", 1, 2);
        found(hostel, "c", 2, -1);
        found(hostel, "x", -1, 0);
        // a cancelled booking keeps its NAME
        found(hostel, "y", -1, 1);
        found(hostel, "longname", 3, -1);
        found(hostel, "longnamex", -1, -1);
        found(hostel, "xlongname", -1, -1);
        found(hostel, "x;", -1, -1);
        found(hostel, " x", -1, -1);
        found(hostel, "x ", -1, -1);
        found(hostel, "x\0", -1, -1);
        found(hostel, "\0x", -1, -1);
        found(hostel, "X", -1, -1);
        found(hostel, "5", -1, -1);
        found(hostel, "", -1, -1);
        hostel.book(0, 1, 1, 0, 0, 0);
        found(hostel, "", -1, -1);
        found(hostel, "\0", -1, -1);
        Check.put(hostel, "abc");
        hostel.find(true);
        hostel.truncate(3);
        Check.fails("truncate(4) behind find()", ARGUMENT, () -> hostel.truncate(4));
    }

    private static void found(HostelBeds hostel, String name, int room, int booking) {
        hostel.truncate(0);
        Check.put(hostel, name);
        found(hostel, name, true, room);
        found(hostel, name, false, booking);
        hostel.truncate(0);
    }

    private static void found(HostelBeds hostel, String name, boolean isRoom, int due) {
        String call = "find(" + isRoom + ") of '" + name + "'";
        if (due < 0) {
            Check.fails(call, NO_SUCH, () -> hostel.find(isRoom));
        } else {
            Check.due(call, hostel.find(isRoom), due);
        }
    }

    private static void states() {
        HostelBeds hostel = Check.loaded(TEXT);
        int[] states = {1, 2, 1, 1, 0};
        for (int booking = 0; booking < 5; booking++) {
            Check.due("state(" + booking + ")", hostel.state(booking), states[booking]);
        }
        Check.fails("state(5)", INDEX, () -> hostel.state(5));
        Check.fails("state(-1)", INDEX, () -> hostel.state(-1));
    }

    private static void waiting() {
        HostelBeds hostel = Check.loaded("room a mixed 2 0 1;book a 0 3 2 0 0 0;book b 0 1 2 0 0 0;"
                + "book c 1 1 1 0 0 0;book d 1 1 2 0 0 0;book e 2 1 1 1 0 0;");
        Check.due("list", list(hostel), "1 2 3 4");
        Check.fails("waiting(4)", INDEX, () -> hostel.waiting(4));
        Check.fails("waiting(-1)", INDEX, () -> hostel.waiting(-1));
        Check.due("cancel(2)", hostel.cancel(2), 0);
        Check.due("list", list(hostel), "1 3 4");
        Check.due("cancel(0)", hostel.cancel(0), 3);
        Check.due("list", list(hostel), "");
        hostel.undo();
        hostel.undo();
        Check.due("cancel(0)", hostel.cancel(0), 3);
        Check.due("list", list(hostel), "3");
        Check.due("state(2)", hostel.state(2), 1);
    }

    private static String list(HostelBeds hostel) {
        StringBuilder list = new StringBuilder();
        for (int place = 0; place < hostel.count(3); place++) {
            list.append(place == 0 ? "" : " ").append(hostel.waiting(place));
        }
        Check.fails("waiting() behind the list", INDEX, () -> hostel.waiting(hostel.count(3)));
        return list.toString();
    }

    private static void accepting() {
        // absent guests count, and each night counts for itself
        HostelBeds hostel = Check.loaded("room a women 2 50 1;room b men 1 50 1;over 33;book a 3 2 3 0 0 0;absent a;"
                + "book b 2 2 1 0 0 0;book c 5 1 0 3 0 0;book d 2 1 3 0 0 0;book e 2 1 1 0 0 0;over 34;");
        Check.due("list", list(hostel), "1 4");
        Check.due("placed(2)", hostel.placed(2), 3);
        // the statement room does not go through the list, but a later cancellation does, also of one that waits
        HostelBeds later = Check.loaded("book a 0 1 2 0 0 0;book b 0 1 1 0 0 0;room a mixed 1 0 1;");
        Check.due("list", list(later), "0 1");
        Check.due("cancel(0)", later.cancel(0), 1);
        HostelBeds text = Check.loaded("book a 0 1 2 0 0 0;book b 0 1 1 0 0 0;room a mixed 1 0 1;cancel a;");
        Check.due("state(1)", text.state(1), 1);
        Check.due("list", list(text), "");
    }
}
