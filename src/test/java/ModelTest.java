import java.util.ArrayList;
import java.util.List;
import java.util.function.Supplier;

/**
 * Long runs of calls, the same on HostelBeds and on Model; each answer and each exception must be the same.
 * Two arguments tell the first run and the one behind the last.
 */
public final class ModelTest {
    private static final int RUNS = 120;
    // an object is promised for 512 calls; the dearest step, a formatted text that is read, makes 135
    private static final int LAST_STEP_BEFORE = 512 - 135;

    private long seed;
    private int calls;
    private HostelBeds hostel;
    private Model model;

    public static void main(String[] args) {
        int first = args.length > 1 ? Integer.parseInt(args[0]) : 0;
        int end = args.length > 1 ? Integer.parseInt(args[1]) : RUNS;
        for (int run = first; run < end; run++) {
            new ModelTest().run(run);
        }
        Check.finish();
    }

    private void run(int number) {
        seed = 0x9E3779B97F4A7C15L * (number + 1);
        hostel = new HostelBeds();
        model = new Model();
        for (int step = 0; calls < LAST_STEP_BEFORE; step++) {
            String where = "run " + number + ", step " + step + ": ";
            if (step % 60 == 0) {
                text(where, step == 0 ? 0 : below(4));
            } else {
                call(where, below(50));
            }
        }
    }

    /** A number from 0 below the bound, by a row of numbers that is the same each time. */
    private int below(int bound) {
        seed ^= seed << 13;
        seed ^= seed >>> 7;
        seed ^= seed << 17;
        return (int) Math.floorMod(seed >>> 11, (long) bound);
    }

    private boolean maybe(int percent) {
        return below(100) < percent;
    }

    private int near(int most) {
        return maybe(3) ? -1 : maybe(1) ? Integer.MAX_VALUE : maybe(1) ? Integer.MIN_VALUE : below(most + 1);
    }

    private void text(String where, int faults) {
        StringBuilder text = new StringBuilder(told());
        for (int fault = 0; fault < faults && text.length() > 0; fault++) {
            damage(text);
        }
        text.setLength(Math.min(text.length(), 700));
        same(where + "truncate(0)", () -> done(() -> hostel.truncate(0)), () -> done(() -> model.truncate(0)));
        put(where, text.toString());
        same(where + "load() of " + text, () -> hostel.load(), () -> model.load());
        same(where + "errorOffset() of " + text, () -> hostel.errorOffset(), () -> model.errorOffset);
    }

    private void put(String where, String text) {
        String filled = text + "\0".repeat((20 - text.length() % 20) % 20);
        for (int i = 0; i < filled.length(); i += 20) {
            String twenty = filled.substring(i, i + 20);
            int[] w = new int[5];
            for (int k = 0; k < 20; k++) {
                w[k / 4] = w[k / 4] << 8 | twenty.charAt(k);
            }
            same(where + "append", () -> hostel.append(w[0], w[1], w[2], w[3], w[4]), () -> model.append(twenty));
        }
        same(where + "truncate", () -> done(() -> hostel.truncate(text.length())),
                () -> done(() -> model.truncate(text.length())));
    }

    private void damage(StringBuilder text) {
        int at = below(text.length());
        switch (below(4)) {
            case 0 -> text.deleteCharAt(at);
            case 1 -> text.insert(at, " ;a0\n9z\u00ffA".charAt(below(9)));
            case 2 -> text.setCharAt(at, " ;b15\n7x-".charAt(below(9)));
            default -> text.setLength(at);
        }
    }

    private String told() {
        StringBuilder text = new StringBuilder();
        int rooms = maybe(5) ? 0 : 1 + below(8);
        int most = maybe(50) ? 3 : 10;
        List<String> names = new ArrayList<>(List.of("a", "bb", "room", "hall", "x", "cellar", "longname", "q"));
        for (int room = 0; room < rooms; room++) {
            if (maybe(20)) {
                setting(text);
            }
            text.append("room ").append(names.get(room)).append(List.of(" mixed ", " women ", " men ").get(below(3)))
                    .append(1 + below(most)).append(' ').append(maybe(60) ? 0 : below(30)).append(' ')
                    .append(1 + below(maybe(50) ? 3 : 200)).append(maybe(90) ? ";" : " ;\n");
        }
        int bookings = below(17);
        int nights = maybe(50) ? 4 : 30;
        for (int booking = 0; booking < bookings; booking++) {
            if (maybe(15)) {
                setting(text);
            }
            booking(text, (char) ('a' + booking), nights);
            if (maybe(12)) {
                text.append(maybe(50) ? "cancel " : "absent ").append((char) ('a' + below(booking + 1))).append(';');
            }
        }
        return text.length() > 700 ? text.substring(0, text.lastIndexOf(";", 699) + 1) : text.toString();
    }

    private void booking(StringBuilder text, char name, int nights) {
        int from = below(nights);
        int women = below(maybe(30) ? 13 : 4);
        int men = women == 0 ? 1 + below(3) : below(Math.min(5, 13 - women));
        text.append("book ").append(name).append(' ').append(from).append(' ').append(1 + below(Math.min(nights, 30 - from)))
                .append(' ').append(women).append(' ').append(men).append(' ').append(below(40)).append(' ')
                .append(below(101)).append(maybe(15) ? " together;" : ";");
    }

    private void setting(StringBuilder text) {
        switch (below(3)) {
            case 0 -> text.append("over ").append(below(51)).append(';');
            case 1 -> text.append("walk ").append(below(301)).append(';');
            default -> text.append("offer ").append(2 + below(8)).append(' ').append(below(51)).append(';');
        }
    }

    private void call(String where, int which) {
        if (which < 30) {
            ask(where, which);
        } else if (which < 35) {
            wouldBe(where, which);
        } else {
            edit(where, which);
        }
    }

    private void ask(String where, int which) {
        int booking = near(15);
        int room = near(7);
        int night = near(maybe(50) ? 4 : 30);
        int n = near(9);
        String on = where + which + " (" + booking + ", " + room + ", " + night + ", " + n + ")";
        switch (which) {
            case 0 -> same(on, () -> hostel.count(n), () -> model.count(n));
            case 1 -> same(on, () -> hostel.setting(n), () -> model.setting(n));
            case 2 -> same(on, () -> hostel.room(room, n), () -> model.room(room, n));
            case 3 -> same(on, () -> hostel.booking(booking, n), () -> model.booking(booking, n));
            case 4 -> found(on);
            case 5 -> same(on, () -> hostel.state(booking), () -> model.state(booking));
            case 6 -> same(on, () -> hostel.waiting(n), () -> model.waiting(n));
            case 7, 8 -> same(on, () -> hostel.placed(booking), () -> model.placed(booking));
            case 9 -> same(on, () -> hostel.roomsOf(booking), () -> model.roomsOf(booking));
            case 10, 11 -> same(on, () -> hostel.roomOf(booking, n), () -> model.bedOf(booking, n).room());
            case 12, 13 -> same(on, () -> hostel.bedOf(booking, n), () -> model.bedOf(booking, n).bed());
            case 14, 15 -> same(on, () -> hostel.occupant(room, n, night), () -> model.occupant(room, n, night));
            case 16 -> same(on, () -> hostel.freeBeds(room, night), () -> model.freeBeds(room, night));
            case 17 -> same(on, () -> hostel.occupied(night), () -> model.occupied(night));
            case 18 -> same(on, () -> hostel.booked(night), () -> model.booked(night));
            case 19 -> same(on, () -> hostel.walked(night), () -> model.walked(night));
            case 20 -> same(on, () -> hostel.fullNights(), () -> model.fullNights());
            case 21 -> same(on, () -> hostel.longestFree(room, n), () -> model.longestFree(room, n));
            case 22 -> same(on, () -> hostel.splits(), () -> model.splits());
            case 23 -> same(on, () -> hostel.extendable(booking), () -> model.extendable(booking));
            case 24 -> same(on, () -> hostel.pays(booking), () -> model.pays(booking));
            case 25 -> {
                same(on, () -> hostel.walkCost(), () -> new Model.Night(model.now).walkCost());
                same(on, () -> hostel.net(), () -> new Model.Night(model.now).net());
            }
            case 26 -> same(on, () -> hostel.chance(night, n), () -> model.chance(night, n));
            case 27 -> same(on, () -> hostel.risk(night), () -> model.risk(night));
            case 28 -> same(on, () -> hostel.expectedWalks(night), () -> model.expectedWalks(night));
            default -> formatted(on, night, booking);
        }
    }

    private void found(String on) {
        same(on, () -> done(() -> hostel.truncate(0)), () -> done(() -> model.truncate(0)));
        put(on, List.of("a", "bb", "hall", "room", "longname", "a ", "", "b", "c", "q").get(below(10)));
        same(on, () -> hostel.find(true), () -> model.find(true));
        same(on, () -> hostel.find(false), () -> model.find(false));
    }

    private void formatted(String on, int night, int index) {
        same(on, () -> hostel.formattedCharacter(index), () -> model.formattedCharacter(index));
        same(on, () -> hostel.format(night), () -> model.format(night));
        for (int i = -1; i <= model.formatted.length(); i++) {
            int k = i;
            same(on, () -> hostel.formattedCharacter(k), () -> model.formattedCharacter(k));
        }
    }

    private void wouldBe(String where, int which) {
        int from = near(maybe(70) ? 4 : 30);
        int nights = maybe(95) ? 1 + below(4) : near(31);
        int women = near(maybe(70) ? 4 : 13);
        int men = near(maybe(70) ? 3 : 13);
        int age = near(maybe(97) ? 40 : 100);
        int booking = near(15);
        String on = where + which + " (" + from + ", " + nights + ", " + women + ", " + men + ", " + age + "; " + booking + ")";
        switch (which) {
            case 30, 31 -> same(on, () -> hostel.wouldBe(from, nights, women, men, age),
                    () -> model.wouldBe(from, nights, women, men, age));
            case 32 -> {
                if (maybe(30)) {
                    same(on, () -> hostel.bestStay(from, women, men, age), () -> model.bestStay(from, women, men, age));
                }
            }
            case 33 -> same(on, () -> hostel.netWithout(booking), () -> model.netWithout(booking));
            default -> {
                if (maybe(30)) {
                    same(on, () -> hostel.bestOver(), () -> model.bestOver());
                }
            }
        }
    }

    private void edit(String where, int which) {
        int booking = near(15);
        int n = near(maybe(50) ? 10 : 301);
        boolean is = maybe(50);
        String on = where + which + " (" + booking + ", " + n + ", " + is + ")";
        switch (which) {
            case 35, 36, 37 -> booked(where);
            case 38, 39 -> same(on, () -> hostel.cancel(booking), () -> model.cancel(booking));
            case 40, 41 -> same(on, () -> hostel.setAbsent(booking, is), () -> model.setAbsent(booking, is));
            case 42 -> same(on, () -> hostel.setTogether(booking, is), () -> model.setTogether(booking, is));
            case 43 -> same(on, () -> hostel.setOver(n), () -> model.setOver(n));
            case 44 -> same(on, () -> hostel.setWalk(n), () -> model.setWalk(n));
            case 45, 46 -> same(on, () -> hostel.setPrice(booking, n), () -> model.setPrice(booking, n));
            default -> same(on, () -> hostel.undo(), () -> model.undo());
        }
    }

    private void booked(String where) {
        int from = near(maybe(70) ? 4 : 30);
        int nights = maybe(95) ? 1 + below(4) : near(31);
        int women = near(maybe(70) ? 4 : 13);
        int men = near(maybe(70) ? 3 : 13);
        int age = near(maybe(97) ? 40 : 100);
        int chance = near(101);
        same(where + "book(" + from + ", " + nights + ", " + women + ", " + men + ", " + age + ", " + chance + ")",
                () -> hostel.book(from, nights, women, men, age, chance),
                () -> model.book(from, nights, women, men, age, chance));
    }

    private static Object done(Runnable run) {
        run.run();
        return "done";
    }

    private void same(String call, Supplier<Object> got, Supplier<Object> due) {
        calls++;
        Check.due(call, answer(got), answer(due));
    }

    private static Object answer(Supplier<Object> call) {
        try {
            return call.get();
        } catch (RuntimeException e) {
            return e.getClass().getName();
        }
    }
}
