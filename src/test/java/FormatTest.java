/** Promises 44 and 45: format, formattedCharacter. */
public final class FormatTest {
    private static final Class<IndexOutOfBoundsException> INDEX = IndexOutOfBoundsException.class;

    public static void main(String[] args) {
        HostelBeds hostel = Check.loaded("over 50;room roomname mixed 10 0 1;room b women 9 90 1;"
                + "book a 0 2 6 4 20 0;book b 1 2 12 0 1 0;book c 1 1 1 0 90 0;book d 3 1 5 5 0 0;book e 3 1 6 6 0 0 together;");
        formats(hostel, 0, "roomname 10/10, b 0/9");
        formats(hostel, 1, "roomname 10/10, b 1/9 +12");
        formats(hostel, 2, "roomname 0/10, b 0/9 +12");
        formats(hostel, 3, "roomname 10/10, b 0/9 +12");
        formats(hostel, 4, "roomname 0/10, b 0/9");
        Check.fails("format(30)", INDEX, () -> hostel.format(30));
        Check.fails("format(-1)", INDEX, () -> hostel.format(-1));
        Check.fails("formattedCharacter(-1)", INDEX, () -> hostel.formattedCharacter(-1));
        Check.due("the text stays", Check.formatted(hostel, 20), "roomname 0/10, b 0/9");
        hostel.cancel(0);
        Check.due("the text stays", Check.formatted(hostel, 20), "roomname 0/10, b 0/9");
        hostel.undo();
        Check.due("the text stays", Check.formatted(hostel, 20), "roomname 0/10, b 0/9");
        HostelBeds empty = new HostelBeds();
        formats(empty, 29, "");
        empty.load();
        formats(empty, 0, "");
        longest();
        few();
        Check.finish();
    }

    private static void longest() {
        StringBuilder text = new StringBuilder("over 50;");
        for (char name = 'a'; name < 'i'; name++) {
            text.append("room roomnam").append(name).append(" men 10 0 1;");
        }
        for (char name = 'a'; name < 'k'; name++) {
            text.append("book ").append(name).append(" 7 1 12 0 0 0;");
        }
        HostelBeds hostel = Check.loaded(text.toString());
        formats(hostel, 7, "roomnama 0/10, roomnamb 0/10, roomnamc 0/10, roomnamd 0/10, roomname 0/10, roomnamf 0/10, "
                + "roomnamg 0/10, roomnamh 0/10 +120");
        hostel.book(6, 1, 4, 0, 0, 0);
        hostel.cancel(0);
        hostel.cancel(1);
        hostel.book(7, 1, 4, 0, 0, 0);
        formats(hostel, 7, "roomnama 0/10, roomnamb 0/10, roomnamc 0/10, roomnamd 0/10, roomname 0/10, roomnamf 0/10, "
                + "roomnamg 0/10, roomnamh 0/10 +100");
        hostel.undo();
        hostel.undo();
        hostel.undo();
        hostel.setAbsent(0, true);
        formats(hostel, 7, "roomnama 0/10, roomnamb 0/10, roomnamc 0/10, roomnamd 0/10, roomname 0/10, roomnamf 0/10, "
                + "roomnamg 0/10, roomnamh 0/10 +108");
    }

    private static void few() {
        HostelBeds hostel = Check.loaded("room x men 1 0 1;room y men 10 0 1;book a 0 1 1 0 0 0;book b 0 2 0 1 0 0;");
        formats(hostel, 0, "x 1/1, y 0/10 +1");
        formats(hostel, 1, "x 1/1, y 0/10");
        hostel.cancel(1);
        formats(hostel, 0, "x 0/1, y 0/10 +1");
        hostel.undo();
        formats(hostel, 0, "x 1/1, y 0/10 +1");
        hostel.book(0, 1, 9, 0, 0, 0);
        formats(hostel, 0, "x 1/1, y 0/10 +10");
    }

    private static void formats(HostelBeds hostel, int night, String due) {
        int length = hostel.format(night);
        Check.due("format(" + night + ")", length, due.length());
        Check.due("text of format(" + night + ")", Check.formatted(hostel, length), due);
    }
}
