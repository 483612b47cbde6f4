/** Promises 36 to 43: the edits, and undo. */
public final class EditTest {
    private static final Class<IllegalArgumentException> ARGUMENT = IllegalArgumentException.class;
    private static final Class<IllegalStateException> STATE = IllegalStateException.class;
    private static final Class<IndexOutOfBoundsException> INDEX = IndexOutOfBoundsException.class;

    public static void main(String[] args) {
        book();
        wrongBook();
        cancel();
        setAbsent();
        setTogether();
        setOver();
        setWalk();
        setPrice();
        undoOfEach();
        undoOfTen();
        undoKeepsTexts();
        failedEditsAreNotRecorded();
        Check.finish();
    }

    private static void book() {
        HostelBeds hostel = Check.loaded("room a mixed 2 0 5;");
        Check.due("book", hostel.book(3, 4, 1, 1, 40, 60), 0);
        int[] numbers = {3, 4, 1, 1, 40, 60, 0, 0};
        for (int what = 0; what < 8; what++) {
            Check.due("booking(0, " + what + ")", hostel.booking(0, what), numbers[what]);
        }
        Check.due("state(0)", hostel.state(0), 1);
        Check.due("placed(0)", hostel.placed(0), 1);
        Check.due("book one too many", hostel.book(6, 1, 0, 1, 99, 100), 1);
        Check.due("state(1)", hostel.state(1), 0);
        Check.due("waiting(0)", hostel.waiting(0), 1);
        Check.due("book behind", hostel.book(7, 23, 2, 0, 0, 0), 2);
        Check.due("state(2)", hostel.state(2), 1);
        Check.due("booked(29)", hostel.booked(29), 2);
        Check.due("net()", hostel.net(), 40 + 207);
        // what an undone booking was must not shine through
        hostel.setTogether(2, true);
        hostel.setAbsent(2, true);
        hostel.undo();
        hostel.undo();
        hostel.undo();
        hostel.book(7, 1, 2, 0, 0, 0);
        Check.due("booking(2, 6)", hostel.booking(2, 6) + " " + hostel.booking(2, 7), "0 0");
    }

    private static void wrongBook() {
        HostelBeds hostel = Check.loaded("room a mixed 10 0 5;");
        int[][] wrong = {{-1, 1, 1, 0, 0, 0}, {30, 1, 1, 0, 0, 0}, {0, 0, 1, 0, 0, 0}, {29, 2, 1, 0, 0, 0},
            {0, 1, -1, 2, 0, 0}, {0, 1, 13, 0, 0, 0}, {0, 1, 0, 0, 0, 0}, {0, 1, 2, -1, 0, 0}, {0, 1, 6, 7, 0, 0},
            {0, 1, 1, 0, -1, 0}, {0, 1, 1, 0, 100, 0}, {0, 1, 1, 0, 0, -1}, {0, 1, 1, 0, 0, 101}};
        wrongBooks(hostel, wrong);
        for (int i = 0; i < 16; i++) {
            Check.due("book " + i, hostel.book(i, 1, 1, 0, 0, 0), i);
        }
        Check.fails("book the 17th", STATE, () -> hostel.book(0, 1, 1, 0, 0, 0));
        wrongBooks(hostel, wrong);
        hostel.cancel(0);
        Check.fails("book behind a cancelled one", STATE, () -> hostel.book(0, 1, 1, 0, 0, 0));
        hostel.undo();
        Check.due("undo()", hostel.undo(), 8);
        Check.due("book again", hostel.book(0, 1, 1, 0, 0, 0), 15);
    }

    private static void wrongBooks(HostelBeds hostel, int[][] wrong) {
        for (int[] w : wrong) {
            Check.fails("book(" + w[0] + ", " + w[1] + ", " + w[2] + ", " + w[3] + ", " + w[4] + ", " + w[5] + ")",
                    ARGUMENT, () -> hostel.book(w[0], w[1], w[2], w[3], w[4], w[5]));
        }
    }

    private static void cancel() {
        HostelBeds hostel = Check.loaded("room a mixed 3 0 5;book a 0 3 3 0 0 0;book b 0 1 2 0 0 0;book c 0 3 2 0 0 0;"
                + "book d 0 1 1 0 0 0;book e 1 2 1 0 0 0;");
        Check.due("cancel(0)", hostel.cancel(0), 3);
        Check.due("states", states(hostel), "2 1 0 1 1");
        Check.due("waiting(0)", hostel.waiting(0), 2);
        Check.fails("cancel(0)", STATE, () -> hostel.cancel(0));
        Check.due("cancel(2)", hostel.cancel(2), 0);
        Check.due("states", states(hostel), "2 1 2 1 1");
        Check.due("count(3)", hostel.count(3), 0);
        Check.due("booked(0)", hostel.booked(0), 3);
        Check.fails("cancel(5)", INDEX, () -> hostel.cancel(5));
        Check.fails("cancel(-1)", INDEX, () -> hostel.cancel(-1));
        // once through the list: what comes free behind a place is not looked at again
        HostelBeds once = Check.loaded("book x 0 1 3 0 0 0;book y 0 1 2 0 0 0;book z 0 1 1 0 0 0;room a mixed 3 0 5;");
        Check.due("cancel(1)", once.cancel(1), 1);
        Check.due("states", states(once), "1 2 0");
    }

    private static void setAbsent() {
        HostelBeds hostel = Check.loaded("room a mixed 3 0 5;book a 0 1 3 0 0 50;book b 0 1 1 0 0 0;");
        Check.due("setAbsent(0, true)", hostel.setAbsent(0, true), false);
        Check.due("setAbsent(0, true)", hostel.setAbsent(0, true), true);
        Check.due("booking(0, 7)", hostel.booking(0, 7), 1);
        Check.due("placed(0)", hostel.placed(0), 0);
        Check.due("state(0)", hostel.state(0), 1);
        // the beds count as told, the list is not gone through
        Check.due("booked(0)", hostel.booked(0), 3);
        Check.due("state(1)", hostel.state(1), 0);
        Check.due("chance(0, 3)", hostel.chance(0, 3), 0.5);
        Check.due("setAbsent(0, false)", hostel.setAbsent(0, false), true);
        Check.due("placed(0)", hostel.placed(0), 1);
        Check.due("setAbsent(1, true)", hostel.setAbsent(1, true), false);
        hostel.cancel(1);
        Check.due("setAbsent(1, false)", hostel.setAbsent(1, false), true);
        Check.fails("setAbsent(2, true)", INDEX, () -> hostel.setAbsent(2, true));
        Check.fails("setAbsent(-1, true)", INDEX, () -> hostel.setAbsent(-1, true));
    }

    private static void setTogether() {
        HostelBeds hostel = Check.loaded("room a mixed 1 0 5;room b mixed 1 0 5;book a 0 1 2 0 0 0 together;");
        Check.due("placed(0)", hostel.placed(0), 3);
        Check.due("setTogether(0, false)", hostel.setTogether(0, false), true);
        Check.due("placed(0)", hostel.placed(0), 2);
        Check.due("booking(0, 6)", hostel.booking(0, 6), 0);
        Check.due("setTogether(0, false)", hostel.setTogether(0, false), false);
        Check.due("setTogether(0, true)", hostel.setTogether(0, true), false);
        Check.due("placed(0)", hostel.placed(0), 3);
        Check.fails("setTogether(1, true)", INDEX, () -> hostel.setTogether(1, true));
        Check.fails("setTogether(-1, true)", INDEX, () -> hostel.setTogether(-1, true));
    }

    private static void setOver() {
        HostelBeds hostel = Check.loaded("room a mixed 10 0 5;book a 0 1 10 0 0 0;book b 0 1 2 0 0 0;book c 0 1 1 0 0 0;"
                + "book d 0 1 3 0 0 0;");
        Check.due("setOver(9)", hostel.setOver(9), 0);
        Check.due("setOver(10)", hostel.setOver(10), 1);
        Check.due("states", states(hostel), "1 0 1 0");
        Check.due("setOver(0)", hostel.setOver(0), 0);
        Check.due("states", states(hostel), "1 0 1 0");
        Check.due("setOver(50)", hostel.setOver(50), 1);
        Check.due("states", states(hostel), "1 1 1 0");
        Check.due("placed(1)", hostel.placed(1), 3);
        Check.due("setting(0)", hostel.setting(0), 50);
        Check.fails("setOver(51)", ARGUMENT, () -> hostel.setOver(51));
        Check.fails("setOver(-1)", ARGUMENT, () -> hostel.setOver(-1));
        Check.due("setting(0)", hostel.setting(0), 50);
    }

    private static void setWalk() {
        HostelBeds hostel = new HostelBeds();
        Check.due("setWalk(0)", hostel.setWalk(0), 60);
        Check.due("setWalk(300)", hostel.setWalk(300), 0);
        Check.due("setting(1)", hostel.setting(1), 300);
        Check.fails("setWalk(301)", ARGUMENT, () -> hostel.setWalk(301));
        Check.fails("setWalk(-1)", ARGUMENT, () -> hostel.setWalk(-1));
        Check.due("setting(1)", hostel.setting(1), 300);
    }

    private static void setPrice() {
        HostelBeds hostel = Check.loaded("room a mixed 1 0 5;room b mixed 1 0 6;book x 0 1 1 0 0 0;");
        Check.due("setPrice(0, 200)", hostel.setPrice(0, 200), 5);
        Check.due("room(0, 3)", hostel.room(0, 3), 200);
        Check.due("roomsOf(0)", hostel.roomsOf(0), 2);
        Check.due("setPrice(0, 1)", hostel.setPrice(0, 1), 200);
        Check.due("net()", hostel.net(), 1);
        Check.fails("setPrice(0, 0)", ARGUMENT, () -> hostel.setPrice(0, 0));
        Check.fails("setPrice(0, 201)", ARGUMENT, () -> hostel.setPrice(0, 201));
        Check.fails("setPrice(2, 5)", INDEX, () -> hostel.setPrice(2, 5));
        Check.fails("setPrice(-1, 0)", INDEX, () -> hostel.setPrice(-1, 0));
        Check.due("room(0, 3)", hostel.room(0, 3), 1);
    }

    private static void undoOfEach() {
        for (int edits = 0; edits <= 8; edits++) {
            String before = Look.atHostel(edited(edits));
            HostelBeds hostel = edited(8);
            for (int left = 7; left >= edits; left--) {
                Check.due("undo()", hostel.undo(), left);
            }
            Check.due("all behind undo() up to edit " + edits, Look.atHostel(hostel), before);
        }
        HostelBeds hostel = edited(8);
        for (int left = 7; left >= 0; left--) {
            hostel.undo();
        }
        Check.fails("undo()", STATE, hostel::undo);
    }

    private static HostelBeds edited(int edits) {
        HostelBeds hostel = Check.loaded("room a mixed 2 0 5;room b women 2 0 7;walk 9;over 25;book x 0 3 3 0 0 50;"
                + "book y 2 2 1 1 0 70;book z 1 2 2 0 0 30;book w 1 1 0 2 0 20 together;absent y;");
        for (int edit = 0; edit < edits; edit++) {
            switch (edit) {
                case 0 -> hostel.book(5, 2, 1, 1, 9, 9);
                case 1 -> hostel.cancel(0);
                case 2 -> hostel.setAbsent(1, false);
                case 3 -> hostel.setTogether(3, false);
                case 4 -> hostel.setOver(50);
                case 5 -> hostel.setWalk(100);
                default -> hostel.setPrice(1, 3);
            }
        }
        return hostel;
    }

    private static void undoOfTen() {
        HostelBeds hostel = new HostelBeds();
        for (int cost = 1; cost <= 13; cost++) {
            hostel.setWalk(cost);
        }
        for (int left = 9; left >= 0; left--) {
            Check.due("undo()", hostel.undo(), left);
            Check.due("setting(1)", hostel.setting(1), left + 3);
        }
        Check.fails("undo()", STATE, hostel::undo);
        hostel.setWalk(70);
        hostel.setWalk(70);
        Check.due("undo()", hostel.undo(), 1);
        hostel.setWalk(80);
        Check.due("undo()", hostel.undo(), 1);
        Check.due("setting(1)", hostel.setting(1), 70);
        Check.due("undo()", hostel.undo(), 0);
        Check.due("setting(1)", hostel.setting(1), 3);
    }

    private static void undoKeepsTexts() {
        HostelBeds hostel = Check.loaded("room a mixed 2 0 5;book x 0 3 2 0 0 50;");
        hostel.cancel(0);
        int length = hostel.format(0);
        Check.put(hostel, "x");
        hostel.undo();
        Check.due("formatted text", Check.formatted(hostel, length), "a 0/2");
        Check.due("find(false)", hostel.find(false), 0);
        hostel.truncate(1);
    }

    private static void failedEditsAreNotRecorded() {
        HostelBeds hostel = Check.loaded("room a mixed 2 0 5;book x 0 3 2 0 0 50;");
        hostel.setWalk(1);
        Check.fails("setWalk(301)", ARGUMENT, () -> hostel.setWalk(301));
        Check.fails("setOver(51)", ARGUMENT, () -> hostel.setOver(51));
        Check.fails("setPrice(1, 1)", INDEX, () -> hostel.setPrice(1, 1));
        Check.fails("setPrice(0, 0)", ARGUMENT, () -> hostel.setPrice(0, 0));
        Check.fails("setAbsent(1, true)", INDEX, () -> hostel.setAbsent(1, true));
        Check.fails("setTogether(1, true)", INDEX, () -> hostel.setTogether(1, true));
        Check.fails("cancel(1)", INDEX, () -> hostel.cancel(1));
        Check.fails("book", ARGUMENT, () -> hostel.book(30, 1, 1, 0, 0, 0));
        Check.due("undo()", hostel.undo(), 0);
        hostel.cancel(0);
        Check.fails("cancel(0)", STATE, () -> hostel.cancel(0));
        Check.due("undo()", hostel.undo(), 0);
        Check.due("state(0)", hostel.state(0), 1);
    }

    private static String states(HostelBeds hostel) {
        StringBuilder states = new StringBuilder();
        for (int booking = 0; booking < hostel.count(2); booking++) {
            states.append(booking == 0 ? "" : " ").append(hostel.state(booking));
        }
        return states.toString();
    }
}
