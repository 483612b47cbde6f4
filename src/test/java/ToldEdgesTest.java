import java.util.NoSuchElementException;

/** The sentences of promises 1 to 12 that name an edge, a method each. */
public final class ToldEdgesTest {
    private static final Class<IllegalArgumentException> ARGUMENT = IllegalArgumentException.class;
    private static final Class<IllegalStateException> STATE = IllegalStateException.class;
    private static final Class<IndexOutOfBoundsException> INDEX = IndexOutOfBoundsException.class;
    private static final Class<NoSuchElementException> NO_SUCH = NoSuchElementException.class;
    private static final int[] FAR = {-1, -2, 100, 256, 65536, Integer.MAX_VALUE, Integer.MIN_VALUE, Integer.MIN_VALUE + 1};

    public static void main(String[] args) {
        noConstant();
        withoutRooms();
        emptyBuffer();
        twentyBytes();
        mostSignificantFirst();
        newLength();
        exceed700();
        shortens();
        zeroToTheLength();
        replacesEverything();
        noEditCanBeUndone();
        emptyAfterwards();
        alsoOnAnError();
        formattedTextStays();
        numberOfBookings();
        doesNotMatch();
        errorOffsetOfTheLatest();
        noneIfItSucceeded();
        countsOfNothing();
        countsOfMost();
        countOutOfRange();
        settingOutOfRange();
        roomOutOfRange();
        bookingOutOfRange();
        wholeBuffer();
        bufferStays();
        noneFound();
        emptyBufferIsNoName();
        waitingPlaces();
        Check.finish();
    }

    private static void noConstant() {
        Check.sentence("NONE = -1");
        Check.due("NONE", HostelBeds.NONE, -1);
    }

    private static void withoutRooms() {
        Check.sentence("Creates a hostel as an empty text describes it (without rooms)");
        HostelBeds made = new HostelBeds();
        HostelBeds loaded = Check.loaded("room a men 1 0 1;book x 0 1 0 1 0 0;over 3;walk 4;offer 5 6;");
        Check.due("load() of an empty text", loaded.load(), 0);
        Check.due("what an empty text describes", Look.atHostel(loaded), Look.atHostel(made));
        Check.due("count(0)", made.count(0), 0);
        Check.due("setting", made.setting(0) + " " + made.setting(1) + " " + made.setting(2) + " " + made.setting(3), "0 60 7 10");
        Check.fails("room(0, 0)", INDEX, () -> made.room(0, 0));
        Check.fails("booking(0, 0)", INDEX, () -> made.booking(0, 0));
        Check.fails("waiting(0)", INDEX, () -> made.waiting(0));
        Check.fails("undo()", STATE, made::undo);
        for (int night = 0; night < 30; night++) {
            Check.due("occupied", made.occupied(night), 0);
            Check.due("chance", made.chance(night, 0), 1.0);
            Check.due("risk", made.risk(night), 0.0);
        }
        // two objects have nothing in common
        Check.loaded("room a men 1 0 1;").setWalk(5);
        Check.due("another object", made.count(0) + " " + made.setting(1), "0 60");
    }

    private static void emptyBuffer() {
        Check.sentence("with an empty input buffer");
        HostelBeds hostel = new HostelBeds();
        hostel.truncate(0);
        Check.fails("truncate(1)", ARGUMENT, () -> hostel.truncate(1));
        Check.due("append", hostel.append(0, 0, 0, 0, 0), 20);
        HostelBeds other = new HostelBeds();
        Check.due("load()", other.load(), 0);
        Check.due("errorOffset()", other.errorOffset(), -1);
    }

    private static void twentyBytes() {
        Check.sentence("Appends 20 bytes to the input buffer: the four bytes of each parameter in turn");
        HostelBeds hostel = new HostelBeds();
        // "room abcdefgh women " and "10 99 200;over50 ;  "
        hostel.append(0x726F6F6D, 0x20616263, 0x64656667, 0x6820776F, 0x6D656E20);
        hostel.append(0x31302039, 0x39203230, 0x303B6F76, 0x65723530, 0x203B2020);
        hostel.load();
        Check.due("room", hostel.room(0, 0) + " " + hostel.room(0, 1) + " " + hostel.room(0, 2) + " " + hostel.room(0, 3), "1 10 99 200");
        Check.due("over", hostel.setting(0), 50);
        // a byte that is told is there: each of the 20 can be the wrong one
        for (int at = 0; at < 20; at++) {
            int[] w = {0x20202020, 0x20202020, 0x20202020, 0x20202020, 0x20202020};
            w[at / 4] ^= 0x20 << 24 - at % 4 * 8;
            HostelBeds one = new HostelBeds();
            one.append(w[0], w[1], w[2], w[3], w[4]);
            Check.fails("load()", ARGUMENT, one::load);
            Check.due("errorOffset()", one.errorOffset(), at);
        }
    }

    private static void mostSignificantFirst() {
        Check.sentence("the most significant byte first");
        HostelBeds hostel = Check.loaded("room abcd men 1 0 1;room dcba men 1 0 1;");
        hostel.append(0x61626364, 0, 0, 0, 0);
        hostel.truncate(4);
        Check.due("find(true)", hostel.find(true), 0);
        hostel.truncate(0);
        hostel.append(0x64636261, 0, 0, 0, 0);
        hostel.truncate(4);
        Check.due("find(true)", hostel.find(true), 1);
        // a first byte of 128 and above is one byte, too
        HostelBeds signed = new HostelBeds();
        signed.append(0x20202020, 0x2020FF20, 0x20202020, 0x20202020, 0x20202020);
        Check.fails("load()", ARGUMENT, signed::load);
        Check.due("errorOffset()", signed.errorOffset(), 6);
        HostelBeds least = new HostelBeds();
        least.append(0x20202020, 0x20202080, 0x80202020, 0x20202020, 0x20202020);
        Check.fails("load()", ARGUMENT, least::load);
        Check.due("errorOffset()", least.errorOffset(), 7);
    }

    private static void newLength() {
        Check.sentence("Returns the new length of the buffer.");
        HostelBeds hostel = new HostelBeds();
        for (int length = 20; length <= 700; length += 20) {
            Check.due("append", hostel.append(0, 0, 0, 0, 0), length);
        }
        hostel.truncate(13);
        Check.due("append to 13", hostel.append(0, 0, 0, 0, 0), 33);
        hostel.truncate(0);
        Check.due("append to 0", hostel.append(0, 0, 0, 0, 0), 20);
    }

    private static void exceed700() {
        Check.sentence("Throws IllegalStateException if the length would exceed 700");
        for (int filled = 670; filled <= 700; filled++) {
            int length = filled;
            HostelBeds hostel = new HostelBeds();
            Check.put(hostel, " ".repeat(680));
            Check.due("append to 680", hostel.append(0, 0, 0, 0, 0), 700);
            hostel.truncate(length);
            if (length <= 680) {
                Check.due("append to " + length, hostel.append(0, 0, 0, 0, 0), length + 20);
            } else {
                Check.fails("append to " + length, STATE, () -> hostel.append(0, 0, 0, 0, 0));
                Check.fails("truncate", ARGUMENT, () -> hostel.truncate(length + 1));
                hostel.truncate(length);
            }
        }
    }

    private static void shortens() {
        Check.sentence("Shortens the input buffer.");
        for (int length = 0; length <= 14; length++) {
            HostelBeds hostel = new HostelBeds();
            Check.put(hostel, "over 5;walk 6;");
            hostel.truncate(length);
            if (length == 0 || length == 7 || length == 14) {
                hostel.load();
                Check.due("over of " + length, hostel.setting(0), length == 0 ? 0 : 5);
                Check.due("walk of " + length, hostel.setting(1), length == 14 ? 6 : 60);
            } else {
                Check.fails("load() of " + length, ARGUMENT, hostel::load);
                // "ov" is a word that is wrong, "over" one that is right
                int due = length < 4 ? 0 : length > 7 && length < 11 ? 7 : length;
                Check.due("errorOffset() of " + length, hostel.errorOffset(), due);
            }
        }
        // what was cut off does not come back
        HostelBeds hostel = new HostelBeds();
        Check.put(hostel, "over 5;walk 6;");
        hostel.truncate(7);
        hostel.append(0x20202020, 0x20202020, 0x20202020, 0x20202020, 0x20202020);
        hostel.load();
        Check.due("walk", hostel.setting(1), 60);
    }

    private static void zeroToTheLength() {
        Check.sentence("length: the new length, 0 to the current length - Throws IllegalArgumentException if length is out of range");
        HostelBeds hostel = new HostelBeds();
        for (int length = 20; length <= 700; length += 20) {
            hostel.append(0, 0, 0, 0, 0);
            int over = length + 1;
            Check.fails("truncate(" + over + ")", ARGUMENT, () -> hostel.truncate(over));
        }
        for (int wrong : new int[] {-1, 701, 720, 65536, Integer.MAX_VALUE, Integer.MIN_VALUE}) {
            Check.fails("truncate(" + wrong + ")", ARGUMENT, () -> hostel.truncate(wrong));
        }
        for (int length = 700; length >= 500; length--) {
            int over = length + 1;
            hostel.truncate(length);
            Check.fails("truncate(" + over + ")", ARGUMENT, () -> hostel.truncate(over));
        }
        hostel.truncate(1);
        hostel.truncate(0);
        hostel.truncate(0);
        Check.fails("truncate(-1)", ARGUMENT, () -> hostel.truncate(-1));
        Check.fails("truncate(1)", ARGUMENT, () -> hostel.truncate(1));
    }

    private static void replacesEverything() {
        Check.sentence("Parses the input buffer and replaces everything by what it describes");
        String first = "room a men 2 9 9;room b women 3 0 5;over 30;walk 3;offer 3 3;book x 0 3 2 0 9 50 together;absent x;book y 0 1 0 2 8 9;"
                + "book z 1 1 1 2 7 8;book w 1 1 1 0 0 0;cancel w;book v 1 1 4 4 0 0;book u 2 1 4 4 0 0;";
        String[] texts = {"", "room c mixed 1 0 1;", "room b men 1 0 1;book q 2 1 0 1 0 0;book x 2 1 1 0 0 0;", "over 7;", "book w 0 1 1 0 0 0;"};
        for (String text : texts) {
            HostelBeds hostel = Check.loaded(first);
            hostel.cancel(1);
            hostel.setOver(50);
            Check.put(hostel, text);
            hostel.load();
            Check.due("behind load() of " + text, Look.atHostel(hostel), Look.atHostel(Check.loaded(text)));
            replacedAgain(hostel, first, text);
            Check.put(hostel, "b");
            int due = text.startsWith("room b") ? 0 : -1;
            Check.due("room b of " + text, found(hostel, true), due);
            hostel.truncate(0);
            Check.put(hostel, "x");
            Check.due("booking x of " + text, found(hostel, false), due < 0 ? -1 : 1);
        }
    }

    /** Also what was there before the text that is replaced, or what a what-if made of it, is gone. */
    private static void replacedAgain(HostelBeds hostel, String first, String text) {
        String due = Look.atHostel(Check.loaded(text));
        for (int loads = 2; loads <= 4; loads++) {
            HostelBeds again = new HostelBeds();
            for (int load = 0; load < loads; load++) {
                Check.put(again, first);
                again.load();
                again.cancel(0);
                again.wouldBe(0, 5, 3, 3, 50);
                again.bestOver();
            }
            Check.put(again, text);
            again.load();
            Check.due("behind load() " + loads + " of " + text, Look.atHostel(again), due);
        }
        // twice in turn, on the one object
        Check.put(hostel, first);
        hostel.load();
        Check.put(hostel, text);
        hostel.load();
    }

    private static int found(HostelBeds hostel, boolean isRoom) {
        try {
            return hostel.find(isRoom);
        } catch (NoSuchElementException e) {
            return -1;
        }
    }

    private static void noEditCanBeUndone() {
        Check.sentence("no edit can be undone");
        for (int edits = 0; edits <= 12; edits++) {
            HostelBeds hostel = Check.loaded("walk 5;");
            for (int edit = 0; edit < edits; edit++) {
                hostel.setWalk(edit);
            }
            Check.put(hostel, "walk 9;");
            hostel.load();
            Check.fails("undo() behind load()", STATE, hostel::undo);
            Check.due("setting(1)", hostel.setting(1), 9);
            hostel.setWalk(8);
            Check.due("undo()", hostel.undo(), 0);
            Check.due("setting(1)", hostel.setting(1), 9);
            Check.fails("undo()", STATE, hostel::undo);
        }
    }

    private static void emptyAfterwards() {
        Check.sentence("The buffer is empty afterwards");
        HostelBeds hostel = Check.loaded("walk 5;");
        Check.fails("truncate(1)", ARGUMENT, () -> hostel.truncate(1));
        Check.due("append", hostel.append(0, 0, 0, 0, 0), 20);
        HostelBeds full = Check.loaded("over 5;".repeat(100));
        Check.due("append", full.append(0, 0, 0, 0, 0), 20);
        HostelBeds again = Check.loaded("walk 5;");
        Check.due("load()", again.load(), 0);
        Check.due("setting(1)", again.setting(1), 60);
    }

    private static void alsoOnAnError() {
        Check.sentence("also on an error");
        for (String text : new String[] {"?", "walk 5", "walk 5;?", "over 5;".repeat(99) + "over 51"}) {
            HostelBeds hostel = new HostelBeds();
            Check.put(hostel, text);
            Check.fails("load()", ARGUMENT, hostel::load);
            Check.fails("truncate(1)", ARGUMENT, () -> hostel.truncate(1));
            Check.due("append", hostel.append(0x6F766572, 0x20393B20, 0x20202020, 0x20202020, 0x20202020), 20);
            hostel.load();
            Check.due("setting(0)", hostel.setting(0), 9);
        }
    }

    private static void formattedTextStays() {
        Check.sentence("The formatted text stays.");
        HostelBeds hostel = Check.loaded("room a men 2 0 1;book x 0 1 0 1 0 0;");
        Check.due("format(0)", hostel.format(0), 5);
        Check.put(hostel, "room b men 3 0 1;");
        hostel.load();
        Check.due("behind load()", Check.formatted(hostel, 5), "a 1/2");
        Check.put(hostel, "room c");
        Check.fails("load()", ARGUMENT, hostel::load);
        Check.due("behind an error", Check.formatted(hostel, 5), "a 1/2");
        Check.fails("formattedCharacter(0) of a new one", INDEX, () -> Check.loaded("room a men 2 0 1;").formattedCharacter(0));
    }

    private static void numberOfBookings() {
        Check.sentence("Returns the number of bookings.");
        StringBuilder text = new StringBuilder("room a men 2 0 1;room b men 2 0 1;");
        for (int bookings = 0; bookings <= 16; bookings++) {
            HostelBeds hostel = new HostelBeds();
            Check.put(hostel, text.toString());
            Check.due("load()", hostel.load(), bookings);
            Check.due("count(2)", hostel.count(2), bookings);
            String name = "" + (char) ('a' + bookings);
            text.append("book ").append(name).append(" 0 1 1 0 0 0;").append(bookings % 3 == 0 ? "cancel " + name + ";" : "");
        }
    }

    private static void doesNotMatch() {
        Check.sentence("Throws IllegalArgumentException if the text does not match; everything else stays as it is");
        String first = "room a men 2 9 9;over 30;walk 3;book x 0 3 2 0 9 50;absent x;book y 0 1 0 2 8 9;";
        String before = Look.atHostel(Check.loaded(first));
        String wrong = "over 1;walk 1;offer 2 1;room b men 1 0 1;book x 0 1 1 0 0 0;book z 0 1 0 1 0 0;absent x;cancel x;";
        for (int length = 1; length <= wrong.length(); length++) {
            HostelBeds hostel = Check.loaded(first);
            String text = wrong.substring(0, length) + "?";
            Check.put(hostel, text);
            Check.fails("load() of " + text, ARGUMENT, hostel::load);
            Check.due("behind load() of " + text, Look.atHostel(hostel), before);
        }
    }

    private static void errorOffsetOfTheLatest() {
        Check.sentence("Returns the error offset of the latest call of load()");
        HostelBeds hostel = new HostelBeds();
        String[] texts = {"walk 301;", "?", "walk 5;", "walk 5;walk;", "walk", "", "over 5;".repeat(99) + "walk 5;", " "};
        int[] due = {5, 0, -1, 11, 4, -1, -1, -1};
        for (int i = 0; i < texts.length; i++) {
            Check.put(hostel, texts[i]);
            if (due[i] < 0) {
                hostel.load();
            } else {
                Check.fails("load() of " + texts[i], ARGUMENT, hostel::load);
            }
            Check.due("errorOffset() of " + texts[i], hostel.errorOffset(), due[i]);
        }
        // other calls that throw leave it as it is
        Check.put(hostel, "walk ?");
        Check.fails("load()", ARGUMENT, hostel::load);
        Check.fails("setWalk(-1)", ARGUMENT, () -> hostel.setWalk(-1));
        Check.put(hostel, "?");
        Check.fails("find(true)", NO_SUCH, () -> hostel.find(true));
        hostel.truncate(0);
        hostel.setWalk(7);
        hostel.undo();
        Check.due("errorOffset()", hostel.errorOffset(), 5);
    }

    private static void noneIfItSucceeded() {
        Check.sentence("NONE if that call succeeded or if there was none");
        HostelBeds hostel = new HostelBeds();
        Check.due("errorOffset() of none", hostel.errorOffset(), -1);
        Check.put(hostel, "?");
        Check.due("errorOffset() before load()", hostel.errorOffset(), -1);
        Check.fails("load()", ARGUMENT, hostel::load);
        Check.due("errorOffset()", hostel.errorOffset(), 0);
        hostel.load();
        Check.due("errorOffset() behind a good one", hostel.errorOffset(), -1);
    }

    private static void countsOfNothing() {
        Check.sentence("Counts things. - of none");
        HostelBeds hostel = new HostelBeds();
        for (int what = 0; what <= 5; what++) {
            Check.due("count(" + what + ")", hostel.count(what), 0);
        }
    }

    private static void countsOfMost() {
        Check.sentence("0 rooms, 1 beds of all rooms, 2 bookings, 3 those that wait, 4 those that are accepted, 5 those that are cancelled");
        StringBuilder text = new StringBuilder();
        for (char name = 'a'; name < 'i'; name++) {
            text.append("room ").append(name).append(" men 10 0 1;");
        }
        HostelBeds hostel = Check.loaded(text.toString());
        for (int booking = 0; booking < 16; booking++) {
            hostel.book(0, 1, 12, 0, 0, 0);
        }
        Check.due("counts", counts(hostel), "8 80 16 10 6 0");
        for (int booking = 0; booking < 9; booking++) {
            hostel.cancel(booking);
        }
        Check.due("counts", counts(hostel), "8 80 16 1 6 9");
        for (int booking = 9; booking < 16; booking++) {
            hostel.cancel(booking);
        }
        Check.due("counts", counts(hostel), "8 80 16 0 0 16");
    }

    private static String counts(HostelBeds hostel) {
        StringBuilder all = new StringBuilder();
        for (int what = 0; what <= 5; what++) {
            all.append(what == 0 ? "" : " ").append(hostel.count(what));
        }
        return all.toString();
    }

    private static void countOutOfRange() {
        Check.sentence("count: Throws IllegalArgumentException if what is out of range");
        HostelBeds hostel = Check.loaded("room a men 2 0 1;");
        Check.fails("count(6)", ARGUMENT, () -> hostel.count(6));
        for (int wrong : FAR) {
            Check.fails("count(" + wrong + ")", ARGUMENT, () -> hostel.count(wrong));
        }
        Check.due("count(0)", hostel.count(0), 1);
        Check.due("count(5)", hostel.count(5), 0);
    }

    private static void settingOutOfRange() {
        Check.sentence("setting: Throws IllegalArgumentException if which is out of range");
        HostelBeds hostel = Check.loaded("over 1;walk 2;offer 3 4;");
        Check.fails("setting(4)", ARGUMENT, () -> hostel.setting(4));
        for (int wrong : FAR) {
            Check.fails("setting(" + wrong + ")", ARGUMENT, () -> hostel.setting(wrong));
        }
        for (int which = 0; which <= 3; which++) {
            Check.due("setting(" + which + ")", hostel.setting(which), which + 1);
        }
    }

    private static void roomOutOfRange() {
        Check.sentence("room: Throws IllegalArgumentException if what is out of range");
        HostelBeds hostel = Check.loaded("room a men 3 4 5;");
        Check.fails("room(0, 4)", ARGUMENT, () -> hostel.room(0, 4));
        for (int wrong : FAR) {
            Check.fails("room(0, " + wrong + ")", ARGUMENT, () -> hostel.room(0, wrong));
        }
        for (int what = 0; what <= 3; what++) {
            Check.due("room(0, " + what + ")", hostel.room(0, what), what + 2);
        }
    }

    private static void bookingOutOfRange() {
        Check.sentence("booking: Throws IllegalArgumentException if what is out of range");
        HostelBeds hostel = Check.loaded("book a 2 3 4 5 6 7 together;absent a;");
        Check.fails("booking(0, 8)", ARGUMENT, () -> hostel.booking(0, 8));
        for (int wrong : FAR) {
            Check.fails("booking(0, " + wrong + ")", ARGUMENT, () -> hostel.booking(0, wrong));
        }
        for (int what = 0; what <= 7; what++) {
            Check.due("booking(0, " + what + ")", hostel.booking(0, what), what < 6 ? what + 2 : 1);
        }
    }

    private static void wholeBuffer() {
        Check.sentence("whose NAME is the whole input buffer, byte by byte");
        HostelBeds hostel = Check.loaded("room ab men 1 0 1;room abcdefgh men 1 0 1;book bc 0 1 1 0 0 0;book abcdefgh 0 1 1 0 0 0;cancel bc;");
        String[] names = {"ab", "abcdefgh", "bc", "a", "b", "abc", "abcdefg", "bcdefgh", "abcdefghi", "aabcdefgh", "ab ", " ab", "ab\n", "ab;",
            "ab\0", "\0ab", "aB", "AB", "ab ab", "\u00e1b", "abcdefgh\0", "\0\0ab", "ba"};
        int[] rooms = {0, 1, -1};
        int[] bookings = {-1, 1, 0};
        for (int i = 0; i < names.length; i++) {
            hostel.truncate(0);
            Check.put(hostel, names[i]);
            Check.due("find(true) of '" + names[i] + "'", found(hostel, true), i < 3 ? rooms[i] : -1);
            Check.due("find(false) of '" + names[i] + "'", found(hostel, false), i < 3 ? bookings[i] : -1);
        }
        hostel.truncate(0);
        Check.put(hostel, "abcdefgh".repeat(80));
        Check.due("find(true) of a long text", found(hostel, true), -1);
    }

    private static void bufferStays() {
        Check.sentence("The buffer stays.");
        HostelBeds hostel = Check.loaded("room ab men 1 0 1;");
        Check.put(hostel, "ab");
        hostel.find(true);
        Check.fails("find(false)", NO_SUCH, () -> hostel.find(false));
        hostel.find(true);
        Check.fails("truncate(3)", ARGUMENT, () -> hostel.truncate(3));
        hostel.truncate(2);
        Check.put(hostel, "c");
        Check.fails("find(true)", NO_SUCH, () -> hostel.find(true));
        Check.fails("truncate(4)", ARGUMENT, () -> hostel.truncate(4));
        hostel.truncate(2);
        Check.due("find(true)", hostel.find(true), 0);
    }

    private static void noneFound() {
        Check.sentence("find: Throws NoSuchElementException if there is none");
        HostelBeds hostel = new HostelBeds();
        Check.fails("find(true) of nothing", NO_SUCH, () -> hostel.find(true));
        Check.fails("find(false) of nothing", NO_SUCH, () -> hostel.find(false));
        hostel.book(0, 1, 1, 0, 0, 0);
        // a booking without a NAME is not found by an empty buffer
        Check.fails("find(false) of no NAME", NO_SUCH, () -> hostel.find(false));
        Check.put(hostel, "a");
        Check.fails("find(true)", NO_SUCH, () -> hostel.find(true));
        Check.fails("find(false)", NO_SUCH, () -> hostel.find(false));
        HostelBeds told = Check.loaded("room a men 1 0 1;book b 0 1 1 0 0 0;");
        Check.put(told, "a");
        Check.fails("find(false) of a room", NO_SUCH, () -> told.find(false));
        Check.due("find(true) of a room", told.find(true), 0);
        told.truncate(0);
        Check.put(told, "b");
        Check.fails("find(true) of a booking", NO_SUCH, () -> told.find(true));
        Check.due("find(false) of a booking", told.find(false), 0);
    }

    private static void emptyBufferIsNoName() {
        Check.sentence("NAME is any word - 1 to 8 letters; book() adds a booking without a NAME");
        HostelBeds hostel = Check.loaded("room a men 1 0 1;book b 0 1 1 0 0 0;cancel b;");
        for (int booking = 1; booking <= 3; booking++) {
            hostel.book(0, 1, 0, 1, 0, 0);
            Check.fails("find(true) of an empty buffer", NO_SUCH, () -> hostel.find(true));
            Check.fails("find(false) of an empty buffer", NO_SUCH, () -> hostel.find(false));
        }
        hostel.undo();
        Check.fails("find(false) behind undo()", NO_SUCH, () -> hostel.find(false));
        // a buffer of zeros is not empty, but no NAME either
        for (int length = 1; length <= 9; length++) {
            hostel.truncate(0);
            Check.put(hostel, "\0".repeat(length));
            Check.fails("find(true) of zeros", NO_SUCH, () -> hostel.find(true));
            Check.fails("find(false) of zeros", NO_SUCH, () -> hostel.find(false));
        }
        hostel.truncate(0);
        Check.due("the NAME of a cancelled one", find(hostel, "b"), 0);
    }

    private static int find(HostelBeds hostel, String name) {
        Check.put(hostel, name);
        return found(hostel, false);
    }

    private static void waitingPlaces() {
        Check.sentence("0 for the first one - Throws IndexOutOfBoundsException if there is no such place");
        HostelBeds hostel = new HostelBeds();
        for (int waiting = 0; waiting <= 16; waiting++) {
            int behind = waiting;
            Check.fails("waiting(" + behind + ")", INDEX, () -> hostel.waiting(behind));
            if (waiting > 0) {
                Check.due("waiting(0)", hostel.waiting(0), 0);
                Check.due("waiting(" + (waiting - 1) + ")", hostel.waiting(waiting - 1), waiting - 1);
            }
            if (waiting < 16) {
                hostel.book(0, 1, 1, 0, 0, 0);
            }
        }
        for (int wrong : FAR) {
            Check.fails("waiting(" + wrong + ")", INDEX, () -> hostel.waiting(wrong));
        }
        hostel.cancel(0);
        hostel.cancel(15);
        Check.due("waiting(0)", hostel.waiting(0), 1);
        Check.due("waiting(13)", hostel.waiting(13), 14);
        Check.fails("waiting(14)", INDEX, () -> hostel.waiting(14));
    }
}
