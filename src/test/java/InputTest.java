/** Promises 1 to 5: a new object, append, truncate, load, errorOffset. */
public final class InputTest {
    private static final Class<IllegalArgumentException> ARGUMENT = IllegalArgumentException.class;
    private static final Class<IllegalStateException> STATE = IllegalStateException.class;
    private static final Class<IndexOutOfBoundsException> INDEX = IndexOutOfBoundsException.class;

    public static void main(String[] args) {
        newObject();
        append();
        truncate();
        load();
        nothingShinesThrough();
        failedLoad();
        legalTexts();
        wrongTokens();
        wrongNumbers();
        wrongNames();
        tooMany();
        Check.finish();
    }

    private static void newObject() {
        HostelBeds hostel = new HostelBeds();
        for (int what = 0; what < 6; what++) {
            Check.due("new count(" + what + ")", hostel.count(what), 0);
        }
        int[] settings = {0, 60, 7, 10};
        for (int which = 0; which < 4; which++) {
            Check.due("new setting(" + which + ")", hostel.setting(which), settings[which]);
        }
        Check.due("new errorOffset()", hostel.errorOffset(), HostelBeds.NONE);
        Check.due("NONE", HostelBeds.NONE, -1);
        Check.due("new net()", hostel.net(), 0);
        Check.due("new chance(29, 0)", hostel.chance(29, 0), 1.0);
        Check.fails("new room(0, 0)", INDEX, () -> hostel.room(0, 0));
        Check.fails("new state(0)", INDEX, () -> hostel.state(0));
        Check.fails("new undo()", STATE, hostel::undo);
        Check.fails("new formattedCharacter(0)", INDEX, () -> hostel.formattedCharacter(0));
        Check.fails("new truncate(1)", ARGUMENT, () -> hostel.truncate(1));
        Check.due("load() of no text", hostel.load(), 0);
    }

    private static void append() {
        HostelBeds hostel = new HostelBeds();
        // "room a mixed 2 0 5;\n"
        Check.due("append", hostel.append(0x726F6F6D, 0x2061206D, 0x69786564, 0x20322030, 0x20353B0A), 20);
        Check.due("load", hostel.load(), 0);
        Check.due("rooms", hostel.count(0), 1);
        Check.due("price", hostel.room(0, 3), 5);
        for (int i = 1; i <= 35; i++) {
            Check.due("append " + i, hostel.append(0x20202020, 0x20202020, 0x20202020, 0x20202020, 0x20202020), 20 * i);
        }
        Check.fails("append to 700 bytes", STATE, () -> hostel.append(0, 0, 0, 0, 0));
        Check.fails("truncate(701)", ARGUMENT, () -> hostel.truncate(701));
        hostel.truncate(681);
        Check.fails("append to 681 bytes", STATE, () -> hostel.append(0, 0, 0, 0, 0));
        hostel.truncate(680);
        Check.due("append to 680 bytes", hostel.append(0x20202020, 0x20202020, 0x20202020, 0x20202020, 0x2020203B), 700);
        wrong(hostel, 699);
        hostel.append(-1, -1, -1, -1, -1);
        wrong(hostel, 0);
    }

    private static void truncate() {
        HostelBeds hostel = new HostelBeds();
        hostel.truncate(0);
        Check.fails("truncate(-1)", ARGUMENT, () -> hostel.truncate(-1));
        Check.put(hostel, "over 5;over 6;");
        Check.fails("truncate(15)", ARGUMENT, () -> hostel.truncate(15));
        Check.fails("truncate(least)", ARGUMENT, () -> hostel.truncate(Integer.MIN_VALUE));
        hostel.truncate(14);
        hostel.truncate(7);
        hostel.load();
        Check.due("over of the shortened text", hostel.setting(0), 5);
    }

    private static void load() {
        HostelBeds hostel = Check.loaded("room a mixed 2 0 5;walk 7;over 20;offer 3 4;book x 0 1 3 0 0 0;book y 1 1 1 0 0 0;");
        Check.due("waiting", hostel.waiting(0), 0);
        Check.due("booked", hostel.booked(1), 1);
        hostel.setWalk(5);
        int length = hostel.format(0);
        Check.put(hostel, "room b men 3 1 6;book z 2 1 0 1 1 1;");
        Check.due("load", hostel.load(), 1);
        Check.due("rooms", hostel.count(0), 1);
        Check.due("beds", hostel.count(1), 3);
        Check.due("waiting", hostel.count(3), 0);
        Check.due("over", hostel.setting(0), 0);
        Check.due("walk", hostel.setting(1), 60);
        Check.due("offer", hostel.setting(2) + " " + hostel.setting(3), "7 10");
        Check.due("booked before", hostel.booked(1), 0);
        Check.due("placed", hostel.placed(0), 1);
        Check.fails("undo() behind load()", STATE, hostel::undo);
        Check.due("formatted text", Check.formatted(hostel, length), "a 0/2");
        Check.fails("truncate(1) behind load()", ARGUMENT, () -> hostel.truncate(1));
        Check.due("load() of no text", hostel.load(), 0);
        Check.due("rooms of no text", hostel.count(0), 0);
        HostelBeds told = Check.loaded("over 50;book w 0 1 1 0 0 0;room a mixed 2 0 5;"
                + "book x 0 1 3 0 0 0;over 0;book y 0 1 1 0 0 0;book z 1 1 3 0 0 0;book v 1 1 2 0 0 0;");
        Check.due("told in order", told.state(0) + " " + told.state(1) + " " + told.state(2) + " " + told.state(3)
                + " " + told.state(4), "0 1 0 0 1");
        Check.due("book behind load", told.book(2, 1, 1, 0, 0, 0), 5);
    }

    private static void nothingShinesThrough() {
        HostelBeds hostel = new HostelBeds();
        for (int i = 0; i < 2; i++) {
            Check.put(hostel, "room a mixed 2 0 5;walk 7;over 20;offer 3 4;book x 0 1 2 0 0 0 together;absent x;"
                    + "book y 0 1 1 0 0 0;");
            hostel.load();
        }
        for (int i = 0; i < 2; i++) {
            Check.put(hostel, "room b mixed 2 0 5;");
            hostel.load();
            Check.due("beds", hostel.count(1), 2);
            Check.due("booked", hostel.booked(0), 0);
            Check.due("settings", hostel.setting(0) + " " + hostel.setting(1) + " " + hostel.setting(2) + " "
                    + hostel.setting(3), "0 60 7 10");
            Check.fails("waiting(0)", INDEX, () -> hostel.waiting(0));
            Check.due("book", hostel.book(0, 1, 2, 0, 0, 0), 0);
            Check.due("booking(0, 6)", hostel.booking(0, 6) + " " + hostel.booking(0, 7), "0 0");
            Check.due("state(0)", hostel.state(0), 1);
            Check.put(hostel, "x");
            Check.fails("find(false)", java.util.NoSuchElementException.class, () -> hostel.find(false));
            hostel.truncate(0);
        }
    }

    private static void failedLoad() {
        HostelBeds hostel = Check.loaded("room a mixed 2 0 5;book x 0 1 2 0 0 0;walk 9;over 8;");
        hostel.setWalk(5);
        int length = hostel.format(0);
        Check.put(hostel, "room b men 3 1 6;book x 0 1 0 1 1 1;cancel x;over 30;walk 3;cancel x;");
        wrong(hostel, 67);
        Check.fails("truncate(1) behind a failed load()", ARGUMENT, () -> hostel.truncate(1));
        Check.due("beds", hostel.count(1), 2);
        Check.due("settings", hostel.setting(0) + " " + hostel.setting(1), "8 5");
        Check.due("state", hostel.state(0), 1);
        Check.due("placed", hostel.placed(0), 1);
        Check.due("booked", hostel.booked(0), 2);
        Check.due("formatted text", Check.formatted(hostel, length), "a 2/2");
        Check.due("undo() behind a failed load()", hostel.undo(), 0);
        Check.due("walk", hostel.setting(1), 9);
        Check.due("errorOffset() behind undo()", hostel.errorOffset(), 67);
        hostel.load();
        Check.due("errorOffset() behind a good load()", hostel.errorOffset(), -1);
    }

    private static void legalTexts() {
        Check.legal(" \n  ");
        Check.legal("room a mixed 1 0 1;");
        Check.legal("\n room\na\nmixed 1 0 1 ; ");
        Check.legal("room abcdefgh mixed 10 99 200;");
        Check.legal("room a mixed001 000 001;over5;walk6;");
        Check.legal("room room men 1 0 1;book room 0 1 1 0 0 0;room book women 1 0 1;book book 0 1 1 0 0 0;");
        Check.legal("over 50;over 0;walk 300;walk 0;offer 2 0;offer 30 50;");
        Check.legal("book a 29 1 1 0 0 0;book b 0 30 12 0 99 100;book c 0 1 0 12 0 0;book d 0 1 6 6 0 0 together;");
        Check.legal("book together 0 1 1 0 0 0together;cancel together;");
        Check.legal("book a 0 1 1 0 0 0;absent a;absent a;cancel a;book b 0 1 1 0 0 0;absent b;");
    }

    private static void wrongTokens() {
        Check.wrong("room", 4);
        Check.wrong("room ", 5);
        Check.wrong("room a mixed 1 0 1", 18);
        Check.wrong("room a mixed 1 0 1;cancel", 25);
        Check.wrong("rooma mixed 1 0 1;", 0);
        Check.wrong("roo a mixed 1 0 1;", 0);
        Check.wrong("boom a mixed 1 0 1;", 0);
        Check.wrong("rook a 0 1 1 0 0 0;", 0);
        Check.wrong("room a mixer 1 0 1;", 7);
        Check.wrong("room5", 4);
        Check.wrong("roomA", 4);
        Check.wrong("Room a", 0);
        Check.wrong("\troom", 0);
        Check.wrong("over 5\r;", 6);
        Check.wrong("room \u00e9", 5);
        Check.wrong("room a boys 1 0 1;", 7);
        Check.wrong("room a mixed a", 13);
        Check.wrong("room a mixed -1 0 1;", 13);
        Check.wrong("room a mixed 1 0 1 1;", 19);
        Check.wrong(";", 0);
        Check.wrong("5;", 0);
        Check.wrong("over 1;;", 7);
        Check.wrong("over 5 5;", 7);
        Check.wrong("over;", 4);
        Check.wrong("over five;", 5);
        Check.wrong("over 5;@", 7);
        Check.wrong("over 51;@", 5);
        Check.wrong("over 5;room a what 99 @", 14);
        Check.wrong("offer 5;", 7);
        Check.wrong("walk 5 together;", 7);
        Check.wrong("book a 0 1 1 0 0 0 togethe;", 19);
        Check.wrong("book a 0 1 1 0 0 0 together together;", 28);
        Check.wrong("book a 0 1 1 0 0;", 16);
        Check.wrong("absent", 6);
    }

    private static void wrongNumbers() {
        Check.wrong("room a mixed 0 0 1;", 13);
        Check.wrong("room a mixed 11 0 1;", 13);
        Check.wrong("room a mixed 0001 0 1;", 13);
        Check.wrong("room a mixed 1 100 1;", 15);
        Check.wrong("room a mixed 1 0 0;", 17);
        Check.wrong("room a mixed 1 0 201;", 17);
        Check.wrong("over 51;", 5);
        Check.wrong("walk 301;", 5);
        Check.wrong("walk 0060;", 5);
        Check.wrong("walk 4294967297;", 5);
        Check.wrong("offer 1 10;", 6);
        Check.wrong("offer 31 0;", 6);
        Check.wrong("offer 2 51;", 8);
        Check.wrong("book a 30 1 1 0 0 0;", 7);
        Check.wrong("book a 0 0 1 0 0 0;", 9);
        Check.wrong("book a 0 31 1 0 0 0;", 9);
        Check.wrong("book a 29 2 1 0 0 0;", 10);
        Check.wrong("book a 0 1 13 0 0 0;", 11);
        Check.wrong("book a 0 1 0 0 0 0;", 13);
        Check.wrong("book a 0 1 0 13 0 0;", 13);
        Check.wrong("book a 0 1 12 1 0 0;", 14);
        Check.wrong("book a 0 1 6 7 0 0;", 13);
        Check.wrong("book a 0 1 1 0 100 0;", 15);
        Check.wrong("book a 0 1 1 0 0 101;", 17);
    }

    private static void wrongNames() {
        String room = "room a women 1 0 1;";
        String book = "book a 0 1 1 0 0 0;";
        Check.wrong("room abcdefghi mixed 1 0 1;", 5);
        Check.wrong("book abcdefghi 0 1 1 0 0 0;", 5);
        Check.wrong(room + "room a men 1 0 1;", 24);
        Check.wrong(book + "book a 1 1 1 0 0 0;", 24);
        Check.wrong(book + "cancel a;book a 0 1 1 0 0 0;", 33);
        Check.wrong("cancel a;", 7);
        Check.wrong("absent a;", 7);
        Check.wrong(room + "cancel a;", 26);
        Check.wrong(book + "cancel a;cancel a;", 35);
        Check.wrong(book + "cancel a;absent a;", 35);
        Check.wrong(book + "cancel b;", 26);
        Check.wrong(book + "absent 5;", 26);
    }

    private static void tooMany() {
        StringBuilder rooms = new StringBuilder();
        for (char name = 'a'; name < 'i'; name++) {
            rooms.append("room ").append(name).append(" men 1 0 1;");
        }
        Check.legal(rooms.toString());
        Check.wrong(rooms + " room", rooms.length() + 1);
        StringBuilder books = new StringBuilder();
        for (char name = 'a'; name < 'q'; name++) {
            books.append("book ").append(name).append(" 0 1 1 0 0 0;");
        }
        Check.legal(books.toString());
        Check.wrong(books + "cancel a;book z", books.length() + 9);
    }

    private static void wrong(HostelBeds hostel, int offset) {
        Check.fails("load()", ARGUMENT, hostel::load);
        Check.due("errorOffset()", hostel.errorOffset(), offset);
    }
}
