/** The sentences of 'INPUT TEXT' that name an edge, a method each. */
public final class TextEdgesTest {
    private static final String[][] STATEMENTS = {
        {"room", "a", "mixed", "1", "0", "1", ";"}, {"over", "5", ";"}, {"walk", "5", ";"}, {"offer", "5", "5", ";"},
        {"book", "a", "0", "1", "1", "0", "0", "0", ";"}, {"book", "a", "0", "1", "1", "0", "0", "0", "together", ";"},
        {"cancel", "told", ";"}, {"absent", "told", ";"}};
    private static final String TOLD = "book told 0 1 1 0 0 0;";

    public static void main(String[] args) {
        atMost700Bytes();
        wordsOfOneToEightLetters();
        numbersOfOneToThreeDigits();
        theSemicolon();
        asFarAsPossible();
        followDirectly();
        spacesAndLineFeeds();
        everyOtherByte();
        textOfStatements();
        partsOfStatements();
        endsTooEarly();
        nameOfRoom();
        kinds();
        numbersOfRoom();
        numberedFromZero();
        atMostEightRooms();
        numbersOfSettings();
        withoutThem();
        theLastOneCounts();
        nameOfBooking();
        fromAndNights();
        womenAndMen();
        ageAndChance();
        together();
        atMostSixteenBookings();
        cancelAndAbsent();
        inTheOrderOfTheText();
        firstWrongToken();
        oneByOne();
        Check.finish();
    }

    private static void atMost700Bytes() {
        Check.sentence("The text has at most 700 bytes.");
        Check.due("over of 700 bytes", Check.legal("over 5;".repeat(99) + "over 7;").setting(0), 7);
        Check.due("walk of 700 bytes", Check.legal("walk" + " ".repeat(694) + "5;").setting(1), 5);
        Check.wrong("over 5;".repeat(99) + "over 7@", 699);
        Check.wrong("over 5;".repeat(99) + "over 50", 700);
        Check.wrong("over 5;".repeat(99) + "   room", 700);
        Check.wrong("over 5;".repeat(99) + "    roo", 697);
        HostelBeds hostel = new HostelBeds();
        Check.put(hostel, "over 5;".repeat(100));
        Check.fails("append to 700 bytes", IllegalStateException.class, () -> hostel.append(0, 0, 0, 0, 0));
    }

    private static void wordsOfOneToEightLetters() {
        Check.sentence("words (1 to 8 letters a to z)");
        String name = "zyxwvuts";
        for (int length = 1; length <= 8; length++) {
            Check.legal("room " + name.substring(0, length) + " men 1 0 1;");
        }
        Check.wrong("room zyxwvutsr men 1 0 1;", 5);
        Check.wrong("book zyxwvutsr 0 1 1 0 0 0;", 5);
        Check.wrong("book a 0 1 1 0 0 0 togetherr;", 19);
        Check.wrong("book a 0 1 1 0 0 0 ttogether;", 19);
        Check.wrong(TOLD.replace("told", "abcdefgh") + "cancel abcdefghi;", 33);
        Check.wrong("room " + "a".repeat(256) + " men 1 0 1;", 5);
        Check.wrong("a".repeat(700), 0);
        for (char letter = 'a'; letter <= 'z'; letter++) {
            Check.legal("room " + letter + " men 1 0 1;");
        }
        for (char none : new char[] {'`', '{', 'A', 'Z', '@', '[', (char) ('a' + 128)}) {
            Check.wrong("room " + none + " men 1 0 1;", 5);
            Check.wrong("room a" + none + " men 1 0 1;", 6);
        }
    }

    private static void numbersOfOneToThreeDigits() {
        Check.sentence("numbers (1 to 3 digits)");
        Check.due("walk 7", Check.legal("walk 7;").setting(1), 7);
        Check.due("walk 07", Check.legal("walk 07;").setting(1), 7);
        Check.due("walk 007", Check.legal("walk 007;").setting(1), 7);
        Check.due("walk 230", Check.legal("walk 230;").setting(1), 230);
        for (char digit = '0'; digit <= '9'; digit++) {
            Check.due("walk " + digit, Check.legal("walk " + digit + ";").setting(1), digit - '0');
        }
        // also where the number wraps around to a small one
        for (String longer : new String[] {"0000", "0007", "1000", "4294967296", "4294967303", "18446744073709551623"}) {
            Check.wrong("walk " + longer + ";", 5);
            Check.wrong("walk 5" + longer + ";", 5);
        }
        Check.wrong("walk " + "0".repeat(600) + ";", 5);
        for (char none : new char[] {'/', ':', '-', '+', '.', (char) ('0' + 128)}) {
            Check.wrong("walk " + none + "7;", 5);
            Check.wrong("walk 7" + none + ";", 6);
        }
    }

    private static void theSemicolon() {
        Check.sentence("Tokens are words, numbers and the semicolon.");
        Check.legal("walk 7;");
        for (char none : new char[] {':', '<', ',', '.', '{', (char) (';' + 128)}) {
            Check.wrong("walk 7" + none, 6);
            Check.wrong("walk 7;" + none, 7);
        }
    }

    private static void asFarAsPossible() {
        Check.sentence("A token extends as far as possible");
        Check.wrong("overover 5;", 0);
        Check.wrong("roomab men 1 0 1;", 0);
        Check.wrong("room amen 1 0 1;", 10);
        Check.wrong("room a menwomen 1 0 1;", 7);
        Check.wrong("room a men 100 1;", 11);
        Check.due("price", Check.legal("room a men 1 0 100;").room(0, 3), 100);
        Check.wrong("offer 1010;", 6);
        Check.wrong("book a 0 1 1 0 0 0 togetherabsent a;", 19);
    }

    private static void followDirectly() {
        Check.sentence("words and numbers may follow one another directly");
        Check.due("over5", Check.legal("over5;walk6;offer8 9;").setting(3), 9);
        Check.due("room", Check.legal("room a mixed3 4 5;").room(0, 1), 3);
        HostelBeds hostel = Check.legal("room a mixed3 4 5;book x0 2 3 0 9 8together;");
        Check.due("book x0", hostel.booking(0, 1) + " " + hostel.booking(0, 5) + " " + hostel.booking(0, 6), "2 8 1");
        Check.wrong("room a1mixed 3 4 5;", 6);
        Check.wrong("over5over6;", 5);
    }

    private static void spacesAndLineFeeds() {
        Check.sentence("Spaces (32) and line feeds (10) may stand before the first token, between tokens and behind the last");
        for (String between : new String[] {" ", "\n", "  ", "\n\n", " \n", "\n \n  "}) {
            for (String[] statement : STATEMENTS) {
                String text = String.join(between, statement);
                Check.legal(between + TOLD + between + text + between);
            }
            Check.legal(between);
        }
        for (char none : new char[] {0, 9, 11, 12, 13, 31, 33, 127, 133, 160, 138}) {
            Check.wrong(none + "over 5;", 0);
            Check.wrong("over" + none + "5;", 4);
            Check.wrong("over 5" + none + ";", 6);
            Check.wrong("over 5;" + none, 7);
            Check.wrong("over 5; " + none + " ", 8);
        }
        // they part a word and a number
        Check.wrong("ov er 5;", 0);
        Check.wrong("o\nver 5;", 0);
        Check.wrong("over 1 0;", 7);
        Check.wrong("book a 0 1 1 0 0 0 to gether;", 19);
    }

    private static void everyOtherByte() {
        Check.sentence("Every other byte, a longer run of letters and a longer run of digits is an illegal token.");
        for (char sign = 0; sign < 256; sign++) {
            boolean letter = sign >= 'a' && sign <= 'z';
            boolean digit = sign >= '0' && sign <= '9';
            boolean between = sign == ' ' || sign == '\n';
            if (!letter && !digit && !between && sign != ';') {
                Check.wrong("" + sign, 0);
                Check.wrong("room " + sign, 5);
                Check.wrong("room a men " + sign, 11);
                Check.wrong("over 5" + sign, 6);
                Check.wrong("over 5;" + sign, 7);
            }
        }
    }

    private static void textOfStatements() {
        Check.sentence("text = { statement \";\" }.");
        Check.legal("");
        Check.legal("over 5;");
        Check.legal("over 5;over 5;");
        Check.wrong(";", 0);
        Check.wrong("over 5;;", 7);
        Check.wrong("over 5;;over 5;", 7);
        Check.wrong("over 5 over 5;", 7);
        Check.wrong("5;", 0);
        Check.wrong("over 5;5;", 7);
        for (String[] statement : STATEMENTS) {
            String word = statement[0];
            String behind = String.join(" ", statement).substring(word.length());
            for (int at = 0; at < word.length(); at++) {
                Check.wrong(TOLD + word.substring(0, at) + "q" + word.substring(at + 1) + behind, TOLD.length());
                Check.wrong(TOLD + word.substring(0, at) + word.substring(at + 1) + behind, TOLD.length());
            }
        }
        for (String none : new String[] {"roo", "rooms", "ove", "overs", "walks", "offers", "books", "cancels", "absents", "together",
            "mixed", "book1"}) {
            Check.wrong(none + " 5;", none.equals("book1") ? 4 : 0);
            Check.wrong("over 5;" + none + " 5;", none.equals("book1") ? 11 : 7);
        }
    }

    private static void partsOfStatements() {
        Check.sentence("statement = \"room\" NAME KIND BEDS AGE PRICE | \"over\" PERCENT | ..");
        for (String[] statement : STATEMENTS) {
            Check.legal(TOLD + String.join(" ", statement));
            for (int part = 1; part < statement.length; part++) {
                int at = TOLD.length() + String.join(" ", java.util.Arrays.copyOf(statement, part)).length() + 1;
                String before = TOLD + String.join(" ", java.util.Arrays.copyOf(statement, part)) + " ";
                boolean isEnd = statement[part].equals(";");
                boolean isNumber = Character.isDigit(statement[part].charAt(0));
                boolean mayEnd = isEnd || statement[part].equals("together");
                if (!mayEnd) {
                    Check.wrong(before + ";", at);
                }
                if (!isNumber) {
                    Check.wrong(before + "1", at);
                }
                if (isNumber || isEnd) {
                    Check.wrong(before + "zz", at);
                }
                Check.wrong(before + "zzzzzzzzz", at);
                Check.wrong(before + "0001", at);
                Check.wrong(before + "?", at);
            }
        }
    }

    private static void endsTooEarly() {
        Check.sentence("or the length of the text, if it ends too early");
        for (String[] statement : STATEMENTS) {
            StringBuilder text = new StringBuilder(TOLD);
            for (int part = 0; part < statement.length - 1; part++) {
                text.append(statement[part]);
                Check.wrong(text.toString(), text.length());
                text.append(part % 2 == 0 ? " " : " \n ");
                Check.wrong(text.toString(), text.length());
            }
        }
    }

    private static void nameOfRoom() {
        Check.sentence("NAME is any word that is not the NAME of an earlier room");
        for (String name : new String[] {"room", "over", "walk", "offer", "book", "cancel", "absent", "together", "mixed", "women", "men"}) {
            Check.legal("room " + name + " men 1 0 1;");
            Check.wrong("room " + name + " men 1 0 1;room " + name, 21 + name.length());
        }
        String rooms = "room a men 1 0 1;room ab men 1 0 1;room b men 1 0 1;room abcdefgh men 1 0 1;";
        Check.due("rooms", Check.legal(rooms + "room ba men 1 0 1;room abcdefgi men 1 0 1;room bbcdefgh men 1 0 1;").count(0), 7);
        for (String name : new String[] {"a", "ab", "b", "abcdefgh"}) {
            Check.wrong(rooms + "room " + name + " men 1 0 1;", rooms.length() + 5);
        }
        Check.due("a room and a booking", Check.legal("book a 0 1 1 0 0 0;room a men 1 0 1;book b 0 1 1 0 0 0;").count(2), 2);
    }

    private static void kinds() {
        Check.sentence("KIND one of the words mixed, women and men");
        Check.due("mixed", Check.legal("room a mixed 1 0 1;").room(0, 0), 0);
        Check.due("women", Check.legal("room a women 1 0 1;").room(0, 0), 1);
        Check.due("men", Check.legal("room a men 1 0 1;").room(0, 0), 2);
        for (String none : new String[] {"mix", "mixe", "mixeds", "woman", "wome", "womens", "man", "me", "mens", "omen", "room", "a"}) {
            Check.wrong("room a " + none + " 1 0 1;", 7);
        }
    }

    private static void numbersOfRoom() {
        Check.sentence("BEDS 1 to 10, AGE 0 to 99, PRICE 1 to 200");
        for (int number = 0; number <= 999; number++) {
            range("room a men ", number, " 0 1;", 1, 10);
            range("room a men 1 ", number, " 1;", 0, 99);
            range("room a men 1 0 ", number, ";", 1, 200);
        }
        HostelBeds hostel = Check.legal("room a men 10 99 200;room b men 1 0 1;");
        Check.due("most", hostel.room(0, 1) + " " + hostel.room(0, 2) + " " + hostel.room(0, 3), "10 99 200");
        Check.due("least", hostel.room(1, 1) + " " + hostel.room(1, 2) + " " + hostel.room(1, 3), "1 0 1");
    }

    private static void range(String before, int number, String behind, int least, int most) {
        if (number >= least && number <= most) {
            Check.legal(before + number + behind);
        } else {
            Check.wrong(before + number + behind, before.length());
        }
    }

    private static void numberedFromZero() {
        Check.sentence("Rooms are numbered from 0, the beds of each room from 0.");
        HostelBeds hostel = Check.legal("room a men 1 0 11;room b women 3 0 12;book x 0 1 3 0 0 0;book y 0 1 0 1 0 0;");
        Check.due("room(0, 3)", hostel.room(0, 3), 11);
        Check.due("room(1, 3)", hostel.room(1, 3), 12);
        for (int person = 0; person < 3; person++) {
            Check.due("roomOf(0, " + person + ")", hostel.roomOf(0, person), 1);
            Check.due("bedOf(0, " + person + ")", hostel.bedOf(0, person), person);
        }
        Check.due("roomOf(1, 0)", hostel.roomOf(1, 0), 0);
        Check.due("bedOf(1, 0)", hostel.bedOf(1, 0), 0);
        Check.sentence("Bookings are numbered from 0");
        Check.due("booking(0, 2)", hostel.booking(0, 2), 3);
        Check.due("booking(1, 3)", hostel.booking(1, 3), 1);
    }

    private static void atMostEightRooms() {
        Check.sentence("There are at most 8 rooms. - the word \"room\" of one too many");
        StringBuilder rooms = new StringBuilder();
        for (char name = 'a'; name < 'i'; name++) {
            rooms.append("room ").append(name).append(" men 10 0 1;");
            Check.due("rooms", Check.legal(rooms.toString()).count(0), name - 'a' + 1);
        }
        Check.due("beds", Check.legal(rooms.toString()).count(1), 80);
        Check.legal(rooms + "over 5;book room 0 1 1 0 0 0;");
        for (String behind : new String[] {"room", "room ", "room i men 1 0 1;", "room a", "room ?", "room;"}) {
            Check.wrong(rooms + behind, rooms.length());
            Check.wrong(rooms + "over 5; " + behind, rooms.length() + 8);
        }
        Check.wrong(rooms + "rooms", rooms.length());
    }

    private static void numbersOfSettings() {
        Check.sentence("\"over\" (0 to 50), \"walk\" (0 to 300), \"offer\" (2 to 30) (0 to 50)");
        for (int number = 0; number <= 999; number++) {
            range("over ", number, ";", 0, 50);
            range("walk ", number, ";", 0, 300);
            range("offer ", number, " 0;", 2, 30);
            range("offer 2 ", number, ";", 0, 50);
        }
        HostelBeds most = Check.legal("over 50;walk 300;offer 30 50;");
        Check.due("most", settings(most), "50 300 30 50");
        HostelBeds least = Check.legal("over 0;walk 0;offer 2 0;");
        Check.due("least", settings(least), "0 0 2 0");
    }

    private static String settings(HostelBeds hostel) {
        return hostel.setting(0) + " " + hostel.setting(1) + " " + hostel.setting(2) + " " + hostel.setting(3);
    }

    private static void withoutThem() {
        Check.sentence("0 without it - 60 without it - 7 without it - 10 without it");
        Check.due("without", settings(Check.legal("")), "0 60 7 10");
        Check.due("without over", settings(Check.legal("walk 1;offer 2 3;")), "0 1 2 3");
        Check.due("without walk", settings(Check.legal("over 4;offer 2 3;")), "4 60 2 3");
        Check.due("without offer", settings(Check.legal("over 4;walk 1;")), "4 1 7 10");
    }

    private static void theLastOneCounts() {
        Check.sentence("If one is repeated, the last one counts.");
        Check.due("last", settings(Check.legal("over 9;walk 8;offer 7 6;over 1;walk 2;offer 3 4;")), "1 2 3 4");
        Check.due("last 0", settings(Check.legal("over 9;over 0;walk 8;walk 0;offer 7 6;offer 8 0;")), "0 0 8 0");
        Check.due("without again", settings(Check.legal("offer 3 4;offer 7 10;walk 9;walk 60;")), "0 60 7 10");
    }

    private static void nameOfBooking() {
        Check.sentence("NAME is any word that is not the NAME of an earlier booking.");
        for (String name : new String[] {"room", "over", "walk", "offer", "book", "cancel", "absent", "together", "mixed", "women", "men"}) {
            String book = "book " + name + " 0 1 1 0 0 0;";
            Check.legal(book + "absent " + name + ";cancel " + name + ";");
            Check.wrong(book + book, book.length() + 5);
        }
        String books = "book a 0 1 1 0 0 0;book ab 0 1 1 0 0 0;book b 0 1 1 0 0 0;book abcdefgh 0 1 1 0 0 0;";
        Check.due("bookings", Check.legal(books + "book ba 0 1 1 0 0 0;book abcdefgi 0 1 1 0 0 0;").count(2), 6);
        for (String name : new String[] {"a", "ab", "b", "abcdefgh"}) {
            Check.wrong(books + "book " + name + " 0 1 1 0 0 0;", books.length() + 5);
            // a cancelled one keeps its NAME
            String cancelled = books + "cancel " + name + ";";
            Check.wrong(cancelled + "book " + name + " 0 1 1 0 0 0;", cancelled.length() + 5);
        }
        Check.legal("room a men 1 0 1;book a 0 1 1 0 0 0;");
    }

    private static void fromAndNights() {
        Check.sentence("FROM is the first night, 0 to 29; NIGHTS is 1 to 30 - FROM");
        for (int number = 0; number <= 999; number++) {
            range("book a ", number, " 1 1 0 0 0;", 0, 29);
        }
        for (int from = 0; from < 30; from++) {
            for (int nights = 0; nights <= 32; nights++) {
                range("book a " + from + " ", nights, " 1 0 0 0;", 1, 30 - from);
            }
            range("book a " + from + " ", 999, " 1 0 0 0;", 1, 30 - from);
        }
        HostelBeds hostel = Check.legal("book a 0 30 1 0 0 0;book b 29 1 1 0 0 0;");
        Check.due("nights", hostel.booking(0, 1) + " " + hostel.booking(1, 0), "30 29");
    }

    private static void womenAndMen() {
        Check.sentence("WOMEN and MEN are 0 to 12 each, together 1 to 12 - the number of MEN also if there are no WOMEN and"
                + " no MEN, or more than 12 together");
        for (int women = 0; women <= 12; women++) {
            for (int men = 0; men <= 14; men++) {
                range("book a 0 1 " + women + " ", men, " 0 0;", women == 0 ? 1 : 0, 12 - women);
            }
        }
        for (int women = 0; women <= 999; women++) {
            range("book a 0 1 ", women, women == 0 ? " 1 0 0;" : " 0 0 0;", 0, 12);
        }
        range("book a 0 1 0 ", 999, " 0 0;", 1, 12);
        Check.wrong("book a 0 1 13 ?", 11);
    }

    private static void ageAndChance() {
        Check.sentence("AGE is the age of the youngest one, 0 to 99; CHANCE is the chance in percent, 0 to 100");
        for (int number = 0; number <= 999; number++) {
            range("book a 0 1 1 0 ", number, " 0;", 0, 99);
            range("book a 0 1 1 0 0 ", number, ";", 0, 100);
            range("book a 0 1 1 0 0 ", number, " together;", 0, 100);
        }
        HostelBeds hostel = Check.legal("book a 0 1 1 0 99 100;book b 0 1 1 0 0 0;");
        Check.due("most", hostel.booking(0, 4) + " " + hostel.booking(0, 5), "99 100");
        Check.due("least", hostel.booking(1, 4) + " " + hostel.booking(1, 5), "0 0");
    }

    private static void together() {
        Check.sentence("With \"together\", the group must stay in one room.");
        String rooms = "room a mixed 1 0 1;room b mixed 1 0 1;";
        HostelBeds with = Check.legal(rooms + "book x 0 1 2 0 0 0 together;book y 1 1 2 0 0 0;");
        Check.due("together", with.booking(0, 6) + " " + with.placed(0), "1 3");
        Check.due("not together", with.booking(1, 6) + " " + with.placed(1), "0 2");
    }

    private static void atMostSixteenBookings() {
        Check.sentence("there are at most 16 - the word \"book\" of one too many");
        StringBuilder books = new StringBuilder();
        for (char name = 'a'; name < 'q'; name++) {
            books.append("book ").append(name).append(" 0 1 1 0 0 0;");
            Check.due("bookings", Check.legal(books.toString()).count(2), name - 'a' + 1);
        }
        Check.legal(books + "over 5;room book men 1 0 1;");
        // cancelled ones count
        for (String before : new String[] {"", "over 5; ", "cancel a;", "cancel p;cancel b;"}) {
            for (String behind : new String[] {"book", "book ", "book z 0 1 1 0 0 0;", "book a", "book ?", "book;"}) {
                Check.wrong(books + before + behind, books.length() + before.length());
            }
        }
    }

    private static void cancelAndAbsent() {
        Check.sentence("\"cancel\" cancels an earlier booking that is not cancelled, \"absent\" tells that the guests of such"
                + " a booking do not come.");
        HostelBeds hostel = Check.legal("room r men 1 0 1;book a 0 1 0 1 0 0;book b 0 1 0 1 0 0;absent a;absent b;absent a;cancel b;");
        Check.due("states", hostel.state(0) + " " + hostel.state(1), "1 2");
        Check.due("absent", hostel.booking(0, 7) + " " + hostel.booking(1, 7), "1 1");
        for (String word : new String[] {"cancel", "absent"}) {
            String books = "room r men 1 0 1;book a 0 1 0 1 0 0;book b 0 1 0 1 0 0;";
            Check.legal(books + word + " a;" + word + " b;");
            Check.wrong(books + word + " c;book c 0 1 1 0 0 0;", books.length() + 7);
            Check.wrong(books + word + " r;", books.length() + 7);
            Check.wrong(books + word + " ab;", books.length() + 7);
            Check.wrong(books + word + " 0;", books.length() + 7);
            Check.wrong(books + "cancel a;" + word + " a;", books.length() + 16);
            Check.wrong(books + "cancel b;" + word + " b;", books.length() + 16);
            Check.wrong(books + "absent a;cancel a;" + word + " a;", books.length() + 25);
            Check.wrong(word + " a;", 7);
            Check.wrong(word + " a", 7);
        }
    }

    private static void inTheOrderOfTheText() {
        Check.sentence("The statements are carried out in the order of the text, each one at its semicolon");
        String room = "room a mixed 2 0 1;";
        String book = "book x 0 1 3 0 0 0;";
        Check.due("over, room, book", Check.legal("over 50;" + room + book).state(0), 1);
        Check.due("room, over, book", Check.legal(room + "over 50;" + book).state(0), 1);
        Check.due("room, book, over", Check.legal(room + book + "over 50;").state(0), 0);
        Check.due("over, book, room", Check.legal("over 50;" + book + room).state(0), 0);
        Check.due("over, over, book", Check.legal("over 50;" + room + "over 49;" + book).state(0), 0);
        Check.due("book, over 0", Check.legal("over 50;" + room + book + "over 0;").state(0), 1);
        // what has no semicolon is not carried out, and nothing before it either
        HostelBeds hostel = Check.loaded(room + "book y 0 1 1 0 0 0;");
        Check.put(hostel, book + "cancel x;over 5");
        Check.fails("load()", IllegalArgumentException.class, hostel::load);
        Check.due("as it was", hostel.state(0) + " " + hostel.count(0) + " " + hostel.setting(0), "1 1 0");
    }

    private static void firstWrongToken() {
        Check.sentence("the offset of its first token that cannot be continued to a legal text");
        Check.wrong("over 51;walk 301;", 5);
        Check.wrong("over 50;walk 301;over 51;", 13);
        Check.wrong("over 50;walk 300;over 51?", 22);
        Check.wrong("over ?;@", 5);
        Check.wrong("room a men 1 0 1;book a 30 0 13 13 100 101;", 24);
        Check.wrong("room a men 1 0 1;book a 0 1 0 0 100 101;", 30);
        Check.wrong(" \n over  \n 51", 11);
    }

    private static void oneByOne() {
        Check.sentence("a token counts as right even if no legal one can follow it");
        Check.wrong("cancel", 6);
        Check.wrong("absent ;", 7);
        Check.wrong("cancel cancel", 7);
        // the bytes are at an end behind the word, which is right nevertheless
        Check.wrong("over 5;".repeat(99) + "   book", 700);
        Check.wrong("book a 0 1 0 ;", 13);
        Check.wrong("book a 0 1 12 13", 14);
        Check.wrong("book a 29 ;", 10);
    }
}
