import java.util.Objects;

/** What the tests share: texts into an object, and answers that are compared. */
final class Check {
    private static final int MOST_SHOWN = 40;

    private static int wrong = 0;
    private static String sentence = "";

    private Check() {
    }

    /** Tells which sentence of the document the answers that follow are asked for. */
    static void sentence(String told) {
        sentence = told;
    }

    /** Puts a text behind what stands in the buffer. */
    static void put(HostelBeds hostel, String text) {
        int before = hostel.append(0, 0, 0, 0, 0) - 20;
        hostel.truncate(before);
        for (int i = 0; i < text.length(); i += 20) {
            hostel.append(word(text, i), word(text, i + 4), word(text, i + 8), word(text, i + 12), word(text, i + 16));
        }
        hostel.truncate(before + text.length());
    }

    private static int word(String text, int at) {
        int word = 0;
        for (int i = at; i < at + 4; i++) {
            word = word << 8 | (i < text.length() ? text.charAt(i) & 255 : 0);
        }
        return word;
    }

    static HostelBeds loaded(String text) {
        HostelBeds hostel = new HostelBeds();
        put(hostel, text);
        hostel.load();
        return hostel;
    }

    /** The text must match; returns the object that read it. */
    static HostelBeds legal(String text) {
        HostelBeds hostel = new HostelBeds();
        put(hostel, text);
        try {
            hostel.load();
        } catch (IllegalArgumentException e) {
            due("load() of " + text, "throws", "no exception");
        }
        due("errorOffset() of " + text, hostel.errorOffset(), -1);
        return hostel;
    }

    /** The text must be wrong at the offset. */
    static void wrong(String text, int offset) {
        HostelBeds hostel = new HostelBeds();
        put(hostel, text);
        fails("load() of " + text, IllegalArgumentException.class, hostel::load);
        due("errorOffset() of " + text, hostel.errorOffset(), offset);
    }

    static void due(String call, Object got, Object due) {
        if (!Objects.equals(got, due)) {
            wrong++;
            if (wrong <= MOST_SHOWN) {
                System.out.println(call + " answered " + got + ", due is " + due
                        + (sentence.isEmpty() ? "" : " - \"" + sentence + "\""));
            }
        }
    }

    static void fails(String call, Class<? extends RuntimeException> due, Runnable run) {
        Object got = "nothing";
        try {
            run.run();
        } catch (RuntimeException e) {
            got = e.getClass();
        }
        due(call + " throws", got, due);
    }

    static String formatted(HostelBeds hostel, int length) {
        StringBuilder text = new StringBuilder();
        for (int i = 0; i < length; i++) {
            text.append(hostel.formattedCharacter(i));
        }
        fails("formattedCharacter behind the text", IndexOutOfBoundsException.class,
                () -> hostel.formattedCharacter(length));
        return text.toString();
    }

    static void finish() {
        if (wrong > 0) {
            System.out.println(wrong + " answers are not as due");
            System.exit(1);
        }
    }
}
