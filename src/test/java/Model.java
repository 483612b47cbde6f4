import java.util.ArrayDeque;
import java.util.ArrayList;
import java.util.Comparator;
import java.util.Deque;
import java.util.List;
import java.util.NoSuchElementException;
import java.util.Set;

/** The document once more, as plainly as can be: all is worked out anew at each call. ModelTest compares with it. */
final class Model {
    record Room(String name, int kind, int beds, int age, int price) {
    }

    record Booking(String name, int from, int nights, int women, int men, int age, int chance, boolean together,
            boolean absent, int state) {
        int persons() {
            return women + men;
        }

        boolean in(int night) {
            return from <= night && night < from + nights;
        }

        Booking withState(int newState) {
            return new Booking(name, from, nights, women, men, age, chance, together, absent, newState);
        }

        Booking withAbsent(boolean isAbsent) {
            return new Booking(name, from, nights, women, men, age, chance, together, isAbsent, state);
        }

        Booking withTogether(boolean isTogether) {
            return new Booking(name, from, nights, women, men, age, chance, isTogether, absent, state);
        }
    }

    record Bed(int room, int bed) {
    }

    static final class State {
        final List<Room> rooms = new ArrayList<>();
        final List<Booking> bookings = new ArrayList<>();
        final List<Integer> queue = new ArrayList<>();
        int over = 0;
        int walk = 60;
        int offerNights = 7;
        int offerPercent = 10;

        State copy() {
            State copy = new State();
            copy.rooms.addAll(rooms);
            copy.bookings.addAll(bookings);
            copy.queue.addAll(queue);
            copy.over = over;
            copy.walk = walk;
            copy.offerNights = offerNights;
            copy.offerPercent = offerPercent;
            return copy;
        }

        int beds() {
            return rooms.stream().mapToInt(Room::beds).sum();
        }

        int booked(int night) {
            return bookings.stream().filter(b -> b.state == 1 && b.in(night)).mapToInt(Booking::persons).sum();
        }

        boolean fits(Booking booking) {
            for (int night = 0; night < 30; night++) {
                if (booking.in(night) && booked(night) + booking.persons() > Math.floor(beds() * (100 + over) / 100)) {
                    return false;
                }
            }
            return true;
        }

        void add(Booking booking) {
            if (fits(booking)) {
                bookings.add(booking.withState(1));
            } else {
                queue.add(bookings.size());
                bookings.add(booking.withState(0));
            }
        }

        int goThrough() {
            int accepted = 0;
            for (Integer b : List.copyOf(queue)) {
                if (fits(bookings.get(b))) {
                    bookings.set(b, bookings.get(b).withState(1));
                    queue.remove(b);
                    accepted++;
                }
            }
            return accepted;
        }

        int cancel(int booking) {
            bookings.set(booking, bookings.get(booking).withState(2));
            queue.remove((Integer) booking);
            return goThrough();
        }
    }

    /** The beds of each booking: null if it is not placed, an empty list if it is walked. */
    static final class Night {
        final State state;
        final List<List<Bed>> beds = new ArrayList<>();

        Night(State state) {
            this.state = state;
            List<Integer> order = new ArrayList<>();
            for (int b = 0; b < state.bookings.size(); b++) {
                beds.add(null);
                if (state.bookings.get(b).state == 1 && !state.bookings.get(b).absent) {
                    order.add(b);
                }
            }
            order.sort(Comparator.comparing((Integer b) -> state.bookings.get(b).from).thenComparing(b -> b));
            for (int b : order) {
                beds.set(b, place(state.bookings.get(b)));
            }
        }

        int occupant(Bed bed, int night) {
            for (int b = 0; b < beds.size(); b++) {
                if (beds.get(b) != null && state.bookings.get(b).in(night) && beds.get(b).contains(bed)) {
                    return b;
                }
            }
            return -1;
        }

        boolean free(Bed bed, Booking booking) {
            for (int night = booking.from; night < booking.from + booking.nights; night++) {
                if (occupant(bed, night) >= 0) {
                    return false;
                }
            }
            return true;
        }

        List<Bed> freeIn(int room, Booking booking) {
            List<Bed> free = new ArrayList<>();
            for (int bed = 0; bed < state.rooms.get(room).beds; bed++) {
                if (free(new Bed(room, bed), booking)) {
                    free.add(new Bed(room, bed));
                }
            }
            return free;
        }

        List<Bed> place(Booking booking) {
            List<Integer> usable = new ArrayList<>();
            for (int room = 0; room < state.rooms.size(); room++) {
                if (booking.age >= state.rooms.get(room).age) {
                    usable.add(room);
                }
            }
            List<Integer> single = new ArrayList<>();
            for (int room : usable) {
                int kind = state.rooms.get(room).kind;
                boolean takesAll = kind == 0 || kind == 1 && booking.men == 0 || kind == 2 && booking.women == 0;
                if (takesAll && freeIn(room, booking).size() >= booking.persons()) {
                    single.add(room);
                }
            }
            single.sort(Comparator.comparing((Integer room) -> freeIn(room, booking).size())
                    .thenComparing(room -> state.rooms.get(room).price).thenComparing(room -> room));
            if (!single.isEmpty()) {
                return give(booking, List.of(single.get(0)));
            }
            return booking.together ? List.of() : split(booking, usable);
        }

        List<Bed> split(Booking booking, List<Integer> usable) {
            List<Bed> best = List.of();
            int bestSize = 99;
            for (int set = 1; set < 256; set++) {
                List<Integer> rooms = new ArrayList<>();
                for (int room = 0; room < 8; room++) {
                    if ((set & 1 << room) != 0) {
                        rooms.add(room);
                    }
                }
                if (usable.containsAll(rooms) && rooms.size() < bestSize) {
                    List<Bed> given = give(booking, rooms);
                    if (given != null) {
                        best = given;
                        bestSize = rooms.size();
                    }
                }
            }
            return best;
        }

        List<Bed> give(Booking booking, List<Integer> rooms) {
            List<Bed> given = new ArrayList<>();
            for (int person = 0; person < booking.persons(); person++) {
                List<Bed> mine = new ArrayList<>();
                for (int kind : new int[] {person < booking.women ? 1 : 2, 0}) {
                    for (int room : rooms) {
                        if (state.rooms.get(room).kind == kind) {
                            mine.addAll(freeIn(room, booking));
                        }
                    }
                }
                mine.removeAll(given);
                if (mine.isEmpty()) {
                    return null;
                }
                given.add(mine.get(0));
            }
            return given;
        }

        int rooms(int b) {
            return beds.get(b) == null ? 0 : beds.get(b).stream().mapToInt(bed -> 1 << bed.room).reduce(0, (x, y) -> x | y);
        }

        int placed(int b) {
            if (beds.get(b) == null) {
                return 0;
            }
            return beds.get(b).isEmpty() ? 3 : Integer.bitCount(rooms(b)) == 1 ? 1 : 2;
        }

        int pays(int b) {
            Booking booking = state.bookings.get(b);
            int total = beds.get(b) == null ? 0
                    : beds.get(b).stream().mapToInt(bed -> state.rooms.get(bed.room).price * booking.nights).sum();
            return booking.nights < state.offerNights ? total : total * (100 - state.offerPercent) / 100;
        }

        int walkCost() {
            int cost = 0;
            for (int b = 0; b < beds.size(); b++) {
                if (placed(b) == 3) {
                    cost += state.walk * state.bookings.get(b).nights * state.bookings.get(b).persons();
                }
            }
            return cost;
        }

        int net() {
            int net = -walkCost();
            for (int b = 0; b < beds.size(); b++) {
                net += pays(b);
            }
            return net;
        }
    }

    State now = new State();
    final Deque<State> past = new ArrayDeque<>();
    String buffer = "";
    String formatted = "";
    int errorOffset = -1;

    static void index(boolean right) {
        if (!right) {
            throw new IndexOutOfBoundsException();
        }
    }

    static void argument(boolean right) {
        if (!right) {
            throw new IllegalArgumentException();
        }
    }

    static void allowed(boolean right) {
        if (!right) {
            throw new IllegalStateException();
        }
    }

    static void exists(boolean right) {
        if (!right) {
            throw new NoSuchElementException();
        }
    }

    void inRoom(int room) {
        index(room >= 0 && room < now.rooms.size());
    }

    void inBooking(int booking) {
        index(booking >= 0 && booking < now.bookings.size());
    }

    static void inNight(int night) {
        index(night >= 0 && night < 30);
    }

    static void group(int from, int nights, int women, int men, int age) {
        argument(from >= 0 && from <= 29 && nights >= 1 && nights <= 30 - from && women >= 0 && women <= 12 && men >= 0
                && men <= 12 && women + men >= 1 && women + men <= 12 && age >= 0 && age <= 99);
    }

    int append(String twenty) {
        allowed(buffer.length() + 20 <= 700);
        buffer += twenty;
        return buffer.length();
    }

    void truncate(int length) {
        argument(length >= 0 && length <= buffer.length());
        buffer = buffer.substring(0, length);
    }

    int load() {
        ModelText text = new ModelText(buffer);
        buffer = "";
        errorOffset = text.errorOffset;
        argument(errorOffset < 0);
        now = text.state;
        past.clear();
        return now.bookings.size();
    }

    int count(int what) {
        argument(what >= 0 && what <= 5);
        return what == 0 ? now.rooms.size() : what == 1 ? now.beds() : what == 2 ? now.bookings.size()
                : (int) now.bookings.stream().filter(b -> b.state == what - 3).count();
    }

    int setting(int which) {
        argument(which >= 0 && which <= 3);
        return new int[] {now.over, now.walk, now.offerNights, now.offerPercent}[which];
    }

    int room(int room, int what) {
        inRoom(room);
        argument(what >= 0 && what <= 3);
        Room r = now.rooms.get(room);
        return new int[] {r.kind, r.beds, r.age, r.price}[what];
    }

    int booking(int booking, int what) {
        inBooking(booking);
        argument(what >= 0 && what <= 7);
        Booking b = now.bookings.get(booking);
        return new int[] {b.from, b.nights, b.women, b.men, b.age, b.chance, b.together ? 1 : 0, b.absent ? 1 : 0}[what];
    }

    int find(boolean isRoom) {
        List<String> names = isRoom ? now.rooms.stream().map(Room::name).toList()
                : now.bookings.stream().map(b -> b.name == null ? "(none)" : b.name).toList();
        exists(names.contains(buffer));
        return names.indexOf(buffer);
    }

    int state(int booking) {
        inBooking(booking);
        return now.bookings.get(booking).state;
    }

    int waiting(int place) {
        index(place >= 0 && place < now.queue.size());
        return now.queue.get(place);
    }

    int placed(int booking) {
        inBooking(booking);
        return new Night(now).placed(booking);
    }

    int roomsOf(int booking) {
        inBooking(booking);
        return new Night(now).rooms(booking);
    }

    Bed bedOf(int booking, int person) {
        inBooking(booking);
        index(person >= 0 && person < now.bookings.get(booking).persons());
        List<Bed> beds = new Night(now).beds.get(booking);
        exists(beds != null && !beds.isEmpty());
        return beds.get(person);
    }

    int occupant(int room, int bed, int night) {
        inRoom(room);
        index(bed >= 0 && bed < now.rooms.get(room).beds);
        inNight(night);
        return new Night(now).occupant(new Bed(room, bed), night);
    }

    int freeBeds(int room, int night) {
        inRoom(room);
        inNight(night);
        return new Night(now).freeIn(room, stay(night, 1)).size();
    }

    private static Booking stay(int from, int nights) {
        return new Booking(null, from, nights, 0, 0, 0, 0, false, false, 1);
    }

    int occupied(int night) {
        inNight(night);
        int free = 0;
        for (int room = 0; room < now.rooms.size(); room++) {
            free += freeBeds(room, night);
        }
        return now.beds() - free;
    }

    int booked(int night) {
        inNight(night);
        return now.booked(night);
    }

    int walked(int night) {
        inNight(night);
        Night all = new Night(now);
        int walked = 0;
        for (int b = 0; b < now.bookings.size(); b++) {
            walked += all.placed(b) == 3 && now.bookings.get(b).in(night) ? now.bookings.get(b).persons() : 0;
        }
        return walked;
    }

    int fullNights() {
        int full = 0;
        for (int night = 0; night < 30 && !now.rooms.isEmpty(); night++) {
            full += occupied(night) == now.beds() ? 1 : 0;
        }
        return full;
    }

    int longestFree(int room, int bed) {
        inRoom(room);
        index(bed >= 0 && bed < now.rooms.get(room).beds);
        Night all = new Night(now);
        for (int nights = 30; nights > 0; nights--) {
            for (int from = 0; from + nights <= 30; from++) {
                if (all.free(new Bed(room, bed), stay(from, nights))) {
                    return nights;
                }
            }
        }
        return 0;
    }

    int splits() {
        Night all = new Night(now);
        int splits = 0;
        for (int b = 0; b < now.bookings.size(); b++) {
            splits += all.placed(b) == 2 ? 1 : 0;
        }
        return splits;
    }

    int extendable(int booking) {
        inBooking(booking);
        Night all = new Night(now);
        List<Bed> beds = all.beds.get(booking);
        Booking b = now.bookings.get(booking);
        int nights = 0;
        while (beds != null && !beds.isEmpty() && b.from + b.nights + nights < 30) {
            Booking more = stay(b.from + b.nights, nights + 1);
            if (!beds.stream().allMatch(bed -> all.free(bed, more))) {
                break;
            }
            nights++;
        }
        return nights;
    }

    int pays(int booking) {
        inBooking(booking);
        return new Night(now).pays(booking);
    }

    double[] chances(int night) {
        double[] p = new double[300];
        p[0] = 1.0;
        for (Booking b : now.bookings) {
            if (b.state == 1 && b.in(night)) {
                double c = b.chance / 100.0;
                double[] next = new double[300];
                for (int k = 0; k < 300; k++) {
                    next[k] = p[k] * (1.0 - c) + (k < b.persons() ? 0.0 : p[k - b.persons()]) * c;
                }
                p = next;
            }
        }
        return p;
    }

    double chance(int night, int guests) {
        inNight(night);
        return guests >= 0 && guests < 300 ? chances(night)[guests] : 0.0;
    }

    double risk(int night) {
        inNight(night);
        double sum = 0.0;
        for (int k = now.beds() + 1; k < 300; k++) {
            sum += chances(night)[k];
        }
        return sum;
    }

    double expectedWalks(int night) {
        inNight(night);
        double sum = 0.0;
        for (int k = now.beds() + 1; k < 300; k++) {
            sum += (k - now.beds()) * chances(night)[k];
        }
        return sum;
    }

    private Night with(int from, int nights, int women, int men, int age) {
        State more = now.copy();
        more.bookings.add(new Booking(null, from, nights, women, men, age, 0, false, false, 1));
        return new Night(more);
    }

    int wouldBe(int from, int nights, int women, int men, int age) {
        group(from, nights, women, men, age);
        return with(from, nights, women, men, age).placed(now.bookings.size());
    }

    int bestStay(int from, int women, int men, int age) {
        group(from, 1, women, men, age);
        int best = 1;
        for (int nights = 2; nights <= 30 - from; nights++) {
            if (with(from, nights, women, men, age).net() > with(from, best, women, men, age).net()) {
                best = nights;
            }
        }
        return best;
    }

    int netWithout(int booking) {
        inBooking(booking);
        State less = now.copy();
        if (now.bookings.get(booking).state == 1) {
            less.bookings.set(booking, now.bookings.get(booking).withState(2));
        }
        return new Night(less).net();
    }

    int netWithOver(int percent) {
        State anew = now.copy();
        anew.bookings.clear();
        anew.over = percent;
        for (Booking b : now.bookings) {
            if (b.state == 2) {
                anew.bookings.add(b);
            } else {
                anew.add(b);
            }
        }
        return new Night(anew).net();
    }

    int bestOver() {
        int[] nets = new int[51];
        int best = 0;
        for (int percent = 0; percent <= 50; percent++) {
            nets[percent] = netWithOver(percent);
            best = nets[percent] > nets[best] ? percent : best;
        }
        return best;
    }

    private void record() {
        past.addLast(now.copy());
        if (past.size() > 10) {
            past.removeFirst();
        }
    }

    int book(int from, int nights, int women, int men, int age, int chance) {
        group(from, nights, women, men, age);
        argument(chance >= 0 && chance <= 100);
        allowed(now.bookings.size() < 16);
        record();
        now.add(new Booking(null, from, nights, women, men, age, chance, false, false, 0));
        return now.bookings.size() - 1;
    }

    int cancel(int booking) {
        inBooking(booking);
        allowed(now.bookings.get(booking).state != 2);
        record();
        return now.cancel(booking);
    }

    boolean setAbsent(int booking, boolean isAbsent) {
        inBooking(booking);
        record();
        return now.bookings.set(booking, now.bookings.get(booking).withAbsent(isAbsent)).absent;
    }

    boolean setTogether(int booking, boolean isTogether) {
        inBooking(booking);
        record();
        return now.bookings.set(booking, now.bookings.get(booking).withTogether(isTogether)).together;
    }

    int setOver(int percent) {
        argument(percent >= 0 && percent <= 50);
        record();
        now.over = percent;
        return now.goThrough();
    }

    int setWalk(int cost) {
        argument(cost >= 0 && cost <= 300);
        record();
        int before = now.walk;
        now.walk = cost;
        return before;
    }

    int setPrice(int room, int price) {
        inRoom(room);
        argument(price >= 1 && price <= 200);
        record();
        Room r = now.rooms.get(room);
        return now.rooms.set(room, new Room(r.name, r.kind, r.beds, r.age, price)).price;
    }

    int undo() {
        allowed(!past.isEmpty());
        now = past.removeLast();
        return past.size();
    }

    int format(int night) {
        inNight(night);
        List<String> parts = new ArrayList<>();
        for (int room = 0; room < now.rooms.size(); room++) {
            Room r = now.rooms.get(room);
            parts.add(r.name + " " + (r.beds - freeBeds(room, night)) + "/" + r.beds);
        }
        formatted = String.join(", ", parts) + (walked(night) > 0 ? " +" + walked(night) : "");
        return formatted.length();
    }

    char formattedCharacter(int index) {
        index(index >= 0 && index < formatted.length());
        return formatted.charAt(index);
    }

    static final Set<String> KINDS = Set.of("mixed", "women", "men");
}
