import java.util.ArrayList;
import java.util.List;
import java.util.regex.Matcher;
import java.util.regex.Pattern;

/** The text of the document for Model: cut into tokens first, then read. */
final class ModelText {
    private static final Pattern TOKEN = Pattern.compile("[ \n]*(?:([a-z]+)|([0-9]+)|(;)|([^ \n])|$)", Pattern.DOTALL);

    private record Token(int offset, String sign) {
    }

    private static final class Wrong extends RuntimeException {
        private static final long serialVersionUID = 1L;
    }

    final Model.State state = new Model.State();
    int errorOffset = -1;
    private final List<Token> tokens = new ArrayList<>();
    private int at = 0;

    ModelText(String text) {
        Matcher matcher = TOKEN.matcher(text);
        int from = 0;
        while (matcher.find(from) && from < text.length()) {
            for (int group = 1; group <= 4; group++) {
                if (matcher.group(group) != null) {
                    tokens.add(new Token(matcher.start(group), matcher.group(group)));
                }
            }
            from = matcher.end();
        }
        tokens.add(new Token(text.length(), ""));
        try {
            while (at < tokens.size() - 1) {
                statement();
            }
        } catch (Wrong e) {
            errorOffset = tokens.get(at).offset;
        }
    }

    private String next(boolean right) {
        if (!right) {
            throw new Wrong();
        }
        return tokens.get(at++).sign;
    }

    private String look() {
        return tokens.get(at).sign;
    }

    private String name() {
        return next(look().matches("[a-z]{1,8}"));
    }

    private int number(int least, int most) {
        next(look().matches("[0-9]{1,3}") && Integer.parseInt(look()) >= least && Integer.parseInt(look()) <= most);
        return Integer.parseInt(tokens.get(at - 1).sign);
    }

    private void end() {
        next(look().equals(";"));
    }

    private void statement() {
        switch (look()) {
            case "room" -> room();
            case "book" -> book();
            case "over" -> {
                at++;
                int percent = number(0, 50);
                end();
                state.over = percent;
            }
            case "walk" -> {
                at++;
                int cost = number(0, 300);
                end();
                state.walk = cost;
            }
            case "offer" -> {
                at++;
                int nights = number(2, 30);
                int percent = number(0, 50);
                end();
                state.offerNights = nights;
                state.offerPercent = percent;
            }
            case "cancel" -> {
                int booking = told();
                end();
                state.cancel(booking);
            }
            case "absent" -> {
                int booking = told();
                end();
                state.bookings.set(booking, state.bookings.get(booking).withAbsent(true));
            }
            default -> throw new Wrong();
        }
    }

    private int told() {
        at++;
        for (int b = 0; b < state.bookings.size(); b++) {
            if (look().equals(state.bookings.get(b).name()) && state.bookings.get(b).state() != 2) {
                at++;
                return b;
            }
        }
        throw new Wrong();
    }

    private void room() {
        next(state.rooms.size() < 8);
        String name = look();
        next(name.matches("[a-z]{1,8}") && state.rooms.stream().noneMatch(r -> r.name().equals(name)));
        int kind = List.of("mixed", "women", "men").indexOf(next(Model.KINDS.contains(look())));
        int beds = number(1, 10);
        int age = number(0, 99);
        int price = number(1, 200);
        end();
        state.rooms.add(new Model.Room(name, kind, beds, age, price));
    }

    private void book() {
        next(state.bookings.size() < 16);
        String name = look();
        next(name.matches("[a-z]{1,8}") && state.bookings.stream().noneMatch(b -> b.name().equals(name)));
        int from = number(0, 29);
        int nights = number(1, 30 - from);
        int women = number(0, 12);
        int men = number(Math.max(0, 1 - women), 12 - women);
        int age = number(0, 99);
        int chance = number(0, 100);
        boolean together = look().equals("together");
        if (together) {
            name();
        }
        end();
        state.add(new Model.Booking(name, from, nights, women, men, age, chance, together, false, 0));
    }
}
