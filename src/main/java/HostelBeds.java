import java.util.NoSuchElementException;

/** The beds of a hostel for thirty nights. The promises that it keeps stand in ../shared/DOC.md. */
public final class HostelBeds {
    public static final int NONE = -1;

    private static final int MOST_BYTES = 700;
    private static final int APPENDED_BYTES = 20;
    private static final int MOST_LETTERS = 8;
    private static final int MOST_DIGITS = 3;

    private static final int ALL_NIGHTS = 30;
    private static final int MOST_ROOMS = 8;
    private static final int MOST_BEDS = 10;
    private static final int MOST_BOOKINGS = 16;
    // one more than there can be, for the booking of wouldBe() and bestStay()
    private static final int BOOKING_ROWS = MOST_BOOKINGS + 1;
    private static final int MOST_PERSONS = 12;
    private static final int MOST_AGE = 99;
    private static final int MOST_PRICE = 200;
    private static final int MOST_PERCENT = 50;
    private static final int MOST_WALK = 300;
    private static final int MOST_UNDONE = 10;
    // 8 rooms of at most 16 signs each, and the persons that are walked
    private static final int MOST_SIGNS = 160;

    private static final int MIXED = 0;
    private static final int FOR_WOMEN = 1;
    private static final int FOR_MEN = 2;

    private static final int WAITS = 0;
    private static final int ACCEPTED = 1;
    private static final int CANCELLED = 2;

    private static final int NOT_PLACED = 0;
    private static final int IN_ONE_ROOM = 1;
    private static final int SPLIT = 2;
    private static final int WALKED = 3;

    private static final int END = 0;
    private static final int WORD = 1;
    private static final int NUMBER = 2;
    private static final int SEMICOLON = 3;
    private static final int ILLEGAL = 4;

    private final Input input = new Input();
    private int wrongAt = NONE;

    private Hostel now = new Hostel();
    private Hostel spare = new Hostel();
    private final Plan plan = new Plan();
    private final Plan trial = new Plan();

    private final Hostel[] past = new Hostel[MOST_UNDONE];
    private int pastNext;
    private int pastCount;

    private final double[] odds = new double[MOST_BOOKINGS * MOST_PERSONS + 1];
    private final char[] signs = new char[MOST_SIGNS];
    private int signCount;

    public HostelBeds() {
        for (int i = 0; i < past.length; i++) {
            past[i] = new Hostel();
        }
    }

    // ---- input

    public int append(int w0, int w1, int w2, int w3, int w4) throws IllegalStateException {
        if (input.length + APPENDED_BYTES > MOST_BYTES) {
            throw new IllegalStateException("the text would have more than 700 bytes");
        }
        input.put(w0);
        input.put(w1);
        input.put(w2);
        input.put(w3);
        input.put(w4);
        return input.length;
    }

    public void truncate(int length) throws IllegalArgumentException {
        if (length < 0 || length > input.length) {
            throw new IllegalArgumentException("no such length");
        }
        input.length = length;
    }

    public int load() throws IllegalArgumentException {
        wrongAt = input.read(spare);
        input.length = 0;
        if (wrongAt != NONE) {
            throw new IllegalArgumentException("the text does not match");
        }
        Hostel loaded = spare;
        spare = now;
        now = loaded;
        pastCount = 0;
        plan.make(now);
        return now.bookingCount;
    }

    public int errorOffset() {
        return wrongAt;
    }

    // ---- what was told

    public int count(int what) throws IllegalArgumentException {
        switch (what) {
            case 0:
                return now.roomCount;
            case 1:
                return now.bedCount;
            case 2:
                return now.bookingCount;
            case 3:
                return now.countState(WAITS);
            case 4:
                return now.countState(ACCEPTED);
            case 5:
                return now.countState(CANCELLED);
            default:
                throw new IllegalArgumentException("no such count");
        }
    }

    public int setting(int which) throws IllegalArgumentException {
        switch (which) {
            case 0:
                return now.over;
            case 1:
                return now.walk;
            case 2:
                return now.offerNights;
            case 3:
                return now.offerPercent;
            default:
                throw new IllegalArgumentException("no such setting");
        }
    }

    public int room(int room, int what) throws IndexOutOfBoundsException, IllegalArgumentException {
        checkRoom(room);
        Room told = now.rooms[room];
        switch (what) {
            case 0:
                return told.kind;
            case 1:
                return told.beds;
            case 2:
                return told.age;
            case 3:
                return told.price;
            default:
                throw new IllegalArgumentException("no such number of a room");
        }
    }

    public int booking(int booking, int what) throws IndexOutOfBoundsException, IllegalArgumentException {
        checkBooking(booking);
        Booking told = now.bookings[booking];
        switch (what) {
            case 0:
                return told.from;
            case 1:
                return told.nights;
            case 2:
                return told.women;
            case 3:
                return told.men;
            case 4:
                return told.age;
            case 5:
                return told.chance;
            case 6:
                return told.together ? 1 : 0;
            case 7:
                return told.absent ? 1 : 0;
            default:
                throw new IllegalArgumentException("no such number of a booking");
        }
    }

    public int find(boolean isRoom) throws NoSuchElementException {
        long name = input.nameOfAll();
        int found = isRoom ? now.roomNamed(name) : now.bookingNamed(name);
        if (found == NONE) {
            throw new NoSuchElementException("nothing has this name");
        }
        return found;
    }

    public int state(int booking) throws IndexOutOfBoundsException {
        checkBooking(booking);
        return now.bookings[booking].state;
    }

    public int waiting(int place) throws IndexOutOfBoundsException {
        if (place < 0 || place >= now.queued) {
            throw new IndexOutOfBoundsException("no such place");
        }
        return now.queue[place];
    }

    // ---- beds

    public int placed(int booking) throws IndexOutOfBoundsException {
        checkBooking(booking);
        return plan.outcome[booking];
    }

    public int roomsOf(int booking) throws IndexOutOfBoundsException {
        checkBooking(booking);
        return plan.roomBits[booking];
    }

    public int roomOf(int booking, int person) throws IndexOutOfBoundsException, NoSuchElementException {
        return bedOfPerson(booking, person) / MOST_BEDS;
    }

    public int bedOf(int booking, int person) throws IndexOutOfBoundsException, NoSuchElementException {
        return bedOfPerson(booking, person) % MOST_BEDS;
    }

    private int bedOfPerson(int booking, int person) {
        checkBooking(booking);
        if (person < 0 || person >= now.bookings[booking].persons) {
            throw new IndexOutOfBoundsException("no such person");
        }
        if (!plan.hasBeds(booking)) {
            throw new NoSuchElementException("the booking has no beds");
        }
        return plan.bedOfPerson[booking * MOST_PERSONS + person];
    }

    public int occupant(int room, int bed, int night) throws IndexOutOfBoundsException {
        checkBed(room, bed);
        checkNight(night);
        int wanted = room * MOST_BEDS + bed;
        for (int b = 0; b < now.bookingCount; b++) {
            if (now.bookings[b].staysIn(night) && plan.hasBed(b, now.bookings[b].persons, wanted)) {
                return b;
            }
        }
        return NONE;
    }

    public int freeBeds(int room, int night) throws IndexOutOfBoundsException {
        checkRoom(room);
        checkNight(night);
        return now.rooms[room].beds - plan.taken(room, night);
    }

    public int occupied(int night) throws IndexOutOfBoundsException {
        checkNight(night);
        return takenBeds(night);
    }

    private int takenBeds(int night) {
        int taken = 0;
        for (int r = 0; r < now.roomCount; r++) {
            taken += plan.taken(r, night);
        }
        return taken;
    }

    public int booked(int night) throws IndexOutOfBoundsException {
        checkNight(night);
        return now.crowd[night];
    }

    public int walked(int night) throws IndexOutOfBoundsException {
        checkNight(night);
        return walkedPersons(night);
    }

    private int walkedPersons(int night) {
        int persons = 0;
        for (int b = 0; b < now.bookingCount; b++) {
            if (plan.outcome[b] == WALKED && now.bookings[b].staysIn(night)) {
                persons += now.bookings[b].persons;
            }
        }
        return persons;
    }

    public int fullNights() {
        int full = 0;
        for (int night = 0; night < ALL_NIGHTS; night++) {
            if (now.roomCount > 0 && takenBeds(night) == now.bedCount) {
                full++;
            }
        }
        return full;
    }

    public int longestFree(int room, int bed) throws IndexOutOfBoundsException {
        checkBed(room, bed);
        int longest = 0;
        int free = 0;
        for (int night = 0; night < ALL_NIGHTS; night++) {
            free = plan.isBusy(room * MOST_BEDS + bed, night) ? 0 : free + 1;
            longest = Math.max(longest, free);
        }
        return longest;
    }

    public int splits() {
        int found = 0;
        for (int b = 0; b < now.bookingCount; b++) {
            if (plan.outcome[b] == SPLIT) {
                found++;
            }
        }
        return found;
    }

    public int extendable(int booking) throws IndexOutOfBoundsException {
        checkBooking(booking);
        if (!plan.hasBeds(booking)) {
            return 0;
        }
        Booking group = now.bookings[booking];
        int behind = group.from + group.nights;
        int night = behind;
        while (night < ALL_NIGHTS && plan.areBedsFree(booking, group.persons, night)) {
            night++;
        }
        return night - behind;
    }

    // ---- money and chances

    public int pays(int booking) throws IndexOutOfBoundsException {
        checkBooking(booking);
        return plan.paid[booking];
    }

    public int walkCost() {
        return plan.spent;
    }

    public int net() {
        return plan.earned - plan.spent;
    }

    public double chance(int night, int guests) throws IndexOutOfBoundsException {
        checkNight(night);
        fillOdds(night);
        return guests >= 0 && guests < odds.length ? odds[guests] : 0.0;
    }

    public double risk(int night) throws IndexOutOfBoundsException {
        checkNight(night);
        fillOdds(night);
        double sum = 0.0;
        for (int k = now.bedCount + 1; k < odds.length; k++) {
            sum += odds[k];
        }
        return sum;
    }

    public double expectedWalks(int night) throws IndexOutOfBoundsException {
        checkNight(night);
        fillOdds(night);
        double sum = 0.0;
        for (int k = now.bedCount + 1; k < odds.length; k++) {
            sum += (k - now.bedCount) * odds[k];
        }
        return sum;
    }

    private void fillOdds(int night) {
        odds[0] = 1.0;
        for (int k = 1; k < odds.length; k++) {
            odds[k] = 0.0;
        }
        for (int b = 0; b < now.bookingCount; b++) {
            Booking group = now.bookings[b];
            if (group.state == ACCEPTED && group.staysIn(night)) {
                addToOdds(group.persons, group.chance / 100.0);
            }
        }
    }

    private void addToOdds(int persons, double comes) {
        // from the top, so that the values before still stand below
        for (int k = odds.length - 1; k >= 0; k--) {
            double fewer = k >= persons ? odds[k - persons] : 0.0;
            odds[k] = odds[k] * (1.0 - comes) + fewer * comes;
        }
    }

    // ---- what would be

    public int wouldBe(int from, int nights, int women, int men, int age) throws IllegalArgumentException {
        checkGroup(from, nights, women, men, age);
        int added = addToSpare(from, nights, women, men, age);
        trial.make(spare);
        return trial.outcome[added];
    }

    public int bestStay(int from, int women, int men, int age) throws IllegalArgumentException {
        checkGroup(from, 1, women, men, age);
        int number = addToSpare(from, 1, women, men, age);
        Booking added = spare.bookings[number];
        int best = 0;
        int bestNet = 0;
        for (int nights = 1; nights <= ALL_NIGHTS - from; nights++) {
            added.nights = nights;
            int net = netOfSpare();
            if (best == 0 || net > bestNet) {
                best = nights;
                bestNet = net;
            }
        }
        return best;
    }

    private int addToSpare(int from, int nights, int women, int men, int age) {
        spare.copy(now);
        int added = spare.bookingCount;
        spare.bookings[added].fill(from, nights, women, men, age, 100);
        spare.bookings[added].state = ACCEPTED;
        spare.bookingCount++;
        return added;
    }

    private int netOfSpare() {
        trial.make(spare);
        return trial.earned - trial.spent;
    }

    public int netWithout(int booking) throws IndexOutOfBoundsException {
        checkBooking(booking);
        if (now.bookings[booking].state != ACCEPTED) {
            return plan.earned - plan.spent;
        }
        spare.copy(now);
        spare.drop(booking);
        return netOfSpare();
    }

    public int bestOver() {
        spare.copy(now);
        int best = 0;
        int bestNet = 0;
        int before = NONE;
        for (int percent = 0; percent <= MOST_PERCENT; percent++) {
            spare.over = percent;
            int accepted = spare.tellAnew();
            if (accepted == before) {
                continue;
            }
            int net = netOfSpare();
            if (before == NONE || net > bestNet) {
                best = percent;
                bestNet = net;
            }
            before = accepted;
        }
        return best;
    }

    // ---- edits

    public int book(int from, int nights, int women, int men, int age, int chance)
            throws IllegalArgumentException, IllegalStateException {
        checkGroup(from, nights, women, men, age);
        checkRange(chance, 0, 100);
        if (now.bookingCount >= MOST_BOOKINGS) {
            throw new IllegalStateException("there are 16 bookings");
        }
        remember();
        now.bookings[now.bookingCount].fill(from, nights, women, men, age, chance);
        now.tellNext();
        plan.make(now);
        return now.bookingCount - 1;
    }

    public int cancel(int booking) throws IndexOutOfBoundsException, IllegalStateException {
        checkBooking(booking);
        if (now.bookings[booking].state == CANCELLED) {
            throw new IllegalStateException("the booking is cancelled already");
        }
        remember();
        now.drop(booking);
        int accepted = now.acceptWaiting();
        plan.make(now);
        return accepted;
    }

    public boolean setAbsent(int booking, boolean isAbsent) throws IndexOutOfBoundsException {
        checkBooking(booking);
        remember();
        boolean before = now.bookings[booking].absent;
        now.bookings[booking].absent = isAbsent;
        plan.make(now);
        return before;
    }

    public boolean setTogether(int booking, boolean isTogether) throws IndexOutOfBoundsException {
        checkBooking(booking);
        remember();
        boolean before = now.bookings[booking].together;
        now.bookings[booking].together = isTogether;
        plan.make(now);
        return before;
    }

    public int setOver(int percent) throws IllegalArgumentException {
        checkRange(percent, 0, MOST_PERCENT);
        remember();
        now.over = percent;
        int accepted = now.acceptWaiting();
        plan.make(now);
        return accepted;
    }

    public int setWalk(int cost) throws IllegalArgumentException {
        checkRange(cost, 0, MOST_WALK);
        remember();
        int before = now.walk;
        now.walk = cost;
        plan.make(now);
        return before;
    }

    public int setPrice(int room, int price) throws IndexOutOfBoundsException, IllegalArgumentException {
        checkRoom(room);
        checkRange(price, 1, MOST_PRICE);
        remember();
        int before = now.rooms[room].price;
        now.rooms[room].price = price;
        plan.make(now);
        return before;
    }

    public int undo() throws IllegalStateException {
        if (pastCount == 0) {
            throw new IllegalStateException("no edit can be undone");
        }
        pastCount--;
        pastNext = pastNext == 0 ? past.length - 1 : pastNext - 1;
        now.copy(past[pastNext]);
        plan.make(now);
        return pastCount;
    }

    private void remember() {
        past[pastNext].copy(now);
        pastNext = pastNext == past.length - 1 ? 0 : pastNext + 1;
        pastCount = Math.min(pastCount + 1, past.length);
    }

    // ---- formatted text

    public int format(int night) throws IndexOutOfBoundsException {
        checkNight(night);
        signCount = 0;
        for (int r = 0; r < now.roomCount; r++) {
            if (r > 0) {
                putSign(',');
                putSign(' ');
            }
            putName(now.rooms[r].name);
            putSign(' ');
            putNumber(plan.taken(r, night));
            putSign('/');
            putNumber(now.rooms[r].beds);
        }
        int persons = walkedPersons(night);
        if (persons > 0) {
            putSign(' ');
            putSign('+');
            putNumber(persons);
        }
        return signCount;
    }

    private void putName(long name) {
        for (int shift = 8 * (MOST_LETTERS - 1); shift >= 0; shift -= 8) {
            int letter = (int) (name >>> shift) & 255;
            if (letter != 0) {
                putSign((char) letter);
            }
        }
    }

    private void putNumber(int number) {
        if (number >= 100) {
            putSign((char) ('0' + number / 100));
        }
        if (number >= 10) {
            putSign((char) ('0' + number / 10 % 10));
        }
        putSign((char) ('0' + number % 10));
    }

    private void putSign(char sign) {
        if (signCount < signs.length) {
            signs[signCount] = sign;
            signCount++;
        }
    }

    public char formattedCharacter(int index) throws IndexOutOfBoundsException {
        if (index < 0 || index >= signCount) {
            throw new IndexOutOfBoundsException("no such character");
        }
        return signs[index];
    }

    // ---- checks of parameters

    private void checkRoom(int room) {
        if (room < 0 || room >= now.roomCount) {
            throw new IndexOutOfBoundsException("no such room");
        }
    }

    private void checkBed(int room, int bed) {
        checkRoom(room);
        if (bed < 0 || bed >= now.rooms[room].beds) {
            throw new IndexOutOfBoundsException("no such bed");
        }
    }

    private void checkBooking(int booking) {
        if (booking < 0 || booking >= now.bookingCount) {
            throw new IndexOutOfBoundsException("no such booking");
        }
    }

    private static void checkNight(int night) {
        if (night < 0 || night >= ALL_NIGHTS) {
            throw new IndexOutOfBoundsException("no such night");
        }
    }

    private static void checkGroup(int from, int nights, int women, int men, int age) {
        checkRange(from, 0, ALL_NIGHTS - 1);
        checkRange(nights, 1, ALL_NIGHTS - from);
        checkRange(women, 0, MOST_PERSONS);
        checkRange(men, women == 0 ? 1 : 0, MOST_PERSONS - women);
        checkRange(age, 0, MOST_AGE);
    }

    private static void checkRange(int number, int least, int most) {
        if (number < least || number > most) {
            throw new IllegalArgumentException("a parameter is out of range");
        }
    }

    private static final class Room {
        long name;
        int kind;
        int beds;
        int age;
        int price;

        void copy(Room source) {
            name = source.name;
            kind = source.kind;
            beds = source.beds;
            age = source.age;
            price = source.price;
        }

        boolean takesAll(Booking group) {
            return kind == MIXED || kind == FOR_WOMEN && group.men == 0 || kind == FOR_MEN && group.women == 0;
        }
    }

    private static final class Booking {
        // 0 without a NAME: no word is told by it
        long name;
        int from;
        int nights;
        int women;
        int men;
        int persons;
        int age;
        int chance;
        boolean together;
        boolean absent;
        int state;

        void fill(int from, int nights, int women, int men, int age, int chance) {
            name = 0L;
            this.from = from;
            this.nights = nights;
            this.women = women;
            this.men = men;
            persons = women + men;
            this.age = age;
            this.chance = chance;
            together = false;
            absent = false;
        }

        void copy(Booking source) {
            fill(source.from, source.nights, source.women, source.men, source.age, source.chance);
            name = source.name;
            together = source.together;
            absent = source.absent;
            state = source.state;
        }

        boolean staysIn(int night) {
            return night >= from && night < from + nights;
        }

        int nightBits() {
            return ((1 << nights) - 1) << from;
        }
    }

    /** What was told: the rooms, the bookings with their states, the waiting list and the settings. */
    private static final class Hostel {
        final Room[] rooms = new Room[MOST_ROOMS];
        int roomCount;
        int bedCount;
        final Booking[] bookings = new Booking[BOOKING_ROWS];
        int bookingCount;
        final int[] queue = new int[BOOKING_ROWS];
        int queued;
        // the persons of the accepted bookings, by night
        final int[] crowd = new int[ALL_NIGHTS];
        int over;
        int walk;
        int offerNights;
        int offerPercent;

        Hostel() {
            for (int r = 0; r < rooms.length; r++) {
                rooms[r] = new Room();
            }
            for (int b = 0; b < bookings.length; b++) {
                bookings[b] = new Booking();
            }
            clear();
        }

        void clear() {
            roomCount = 0;
            bedCount = 0;
            bookingCount = 0;
            forgetStates();
            over = 0;
            walk = 60;
            offerNights = 7;
            offerPercent = 10;
        }

        void forgetStates() {
            queued = 0;
            for (int night = 0; night < crowd.length; night++) {
                crowd[night] = 0;
            }
        }

        void copy(Hostel source) {
            roomCount = source.roomCount;
            for (int r = 0; r < roomCount; r++) {
                rooms[r].copy(source.rooms[r]);
            }
            bedCount = source.bedCount;
            bookingCount = source.bookingCount;
            for (int b = 0; b < bookingCount; b++) {
                bookings[b].copy(source.bookings[b]);
            }
            queued = source.queued;
            System.arraycopy(source.queue, 0, queue, 0, queue.length);
            System.arraycopy(source.crowd, 0, crowd, 0, crowd.length);
            over = source.over;
            walk = source.walk;
            offerNights = source.offerNights;
            offerPercent = source.offerPercent;
        }

        int roomNamed(long name) {
            for (int r = 0; r < roomCount; r++) {
                if (rooms[r].name == name) {
                    return r;
                }
            }
            return NONE;
        }

        int bookingNamed(long name) {
            for (int b = 0; b < bookingCount; b++) {
                if (name != 0L && bookings[b].name == name) {
                    return b;
                }
            }
            return NONE;
        }

        int countState(int state) {
            int found = 0;
            for (int b = 0; b < bookingCount; b++) {
                if (bookings[b].state == state) {
                    found++;
                }
            }
            return found;
        }

        boolean canAccept(Booking group) {
            int most = bedCount * (100 + over) / 100;
            for (int night = 0; night < crowd.length; night++) {
                if (group.staysIn(night) && crowd[night] + group.persons > most) {
                    return false;
                }
            }
            return true;
        }

        void accept(Booking group) {
            group.state = ACCEPTED;
            addToCrowd(group, group.persons);
        }

        void addToCrowd(Booking group, int persons) {
            int end = Math.min(group.from + group.nights, crowd.length);
            for (int night = group.from; night < end; night++) {
                crowd[night] += persons;
            }
        }

        /** Adds the booking that was filled in behind the others. */
        void tellNext() {
            tell(bookingCount);
            bookingCount++;
        }

        void tell(int b) {
            if (canAccept(bookings[b])) {
                accept(bookings[b]);
            } else if (queued < queue.length) {
                bookings[b].state = WAITS;
                queue[queued] = b;
                queued++;
            }
        }

        /** Tells all bookings that are not cancelled anew. Returns the accepted ones as bits. */
        int tellAnew() {
            forgetStates();
            int accepted = 0;
            for (int b = 0; b < bookingCount; b++) {
                if (bookings[b].state != CANCELLED) {
                    tell(b);
                    accepted |= bookings[b].state == ACCEPTED ? 1 << b : 0;
                }
            }
            return accepted;
        }

        /** Cancels a booking without going through the waiting list. */
        void drop(int b) {
            if (bookings[b].state == ACCEPTED) {
                addToCrowd(bookings[b], -bookings[b].persons);
            }
            bookings[b].state = CANCELLED;
            int kept = 0;
            for (int place = 0; place < queued; place++) {
                if (queue[place] != b) {
                    queue[kept] = queue[place];
                    kept++;
                }
            }
            queued = kept;
        }

        int acceptWaiting() {
            int kept = 0;
            for (int place = 0; place < queued; place++) {
                Booking group = bookings[queue[place]];
                if (canAccept(group)) {
                    accept(group);
                } else {
                    queue[kept] = queue[place];
                    kept++;
                }
            }
            int accepted = queued - kept;
            queued = kept;
            return accepted;
        }
    }

    /** Who sleeps where, and what that earns. A bed is told by room * 10 + bed. */
    private static final class Plan {
        // the nights in which someone has a bed, as bits
        final int[] busy = new int[MOST_ROOMS * MOST_BEDS];
        final int[] bedOfPerson = new int[BOOKING_ROWS * MOST_PERSONS];
        final int[] outcome = new int[BOOKING_ROWS];
        final int[] roomBits = new int[BOOKING_ROWS];
        final int[] paid = new int[BOOKING_ROWS];
        int earned;
        int spent;
        // the free beds of each room for the group that is being placed; 0 if it cannot use the room
        final int[] free = new int[MOST_ROOMS];

        boolean isBusy(int bed, int night) {
            return (busy[bed] >> night & 1) == 1;
        }

        int taken(int room, int night) {
            int beds = 0;
            for (int bed = room * MOST_BEDS; bed < (room + 1) * MOST_BEDS; bed++) {
                if (isBusy(bed, night)) {
                    beds++;
                }
            }
            return beds;
        }

        boolean hasBeds(int b) {
            return outcome[b] == IN_ONE_ROOM || outcome[b] == SPLIT;
        }

        boolean hasBed(int b, int persons, int wanted) {
            for (int person = 0; person < persons; person++) {
                if (hasBeds(b) && bedOfPerson[b * MOST_PERSONS + person] == wanted) {
                    return true;
                }
            }
            return false;
        }

        boolean areBedsFree(int b, int persons, int night) {
            for (int person = 0; person < persons; person++) {
                if (isBusy(bedOfPerson[b * MOST_PERSONS + person], night)) {
                    return false;
                }
            }
            return true;
        }

        void make(Hostel hostel) {
            clear();
            for (int night = 0; night < ALL_NIGHTS; night++) {
                for (int b = 0; b < hostel.bookingCount; b++) {
                    Booking group = hostel.bookings[b];
                    if (group.from == night && group.state == ACCEPTED && !group.absent) {
                        place(hostel, b);
                    }
                }
            }
        }

        void clear() {
            for (int bed = 0; bed < busy.length; bed++) {
                busy[bed] = 0;
            }
            for (int b = 0; b < outcome.length; b++) {
                outcome[b] = NOT_PLACED;
                roomBits[b] = 0;
                paid[b] = 0;
            }
            earned = 0;
            spent = 0;
        }

        void place(Hostel hostel, int b) {
            Booking group = hostel.bookings[b];
            countFree(hostel, group);
            int set = oneRoom(hostel, group);
            outcome[b] = IN_ONE_ROOM;
            if (set == 0 && !group.together) {
                set = fewestRooms(hostel, group);
                outcome[b] = SPLIT;
            }
            if (set == 0) {
                outcome[b] = WALKED;
                spent += hostel.walk * group.persons * group.nights;
                return;
            }
            roomBits[b] = set;
            paid[b] = giveBeds(hostel, b, set);
            earned += paid[b];
        }

        void countFree(Hostel hostel, Booking group) {
            int nights = group.nightBits();
            for (int r = 0; r < hostel.roomCount; r++) {
                Room room = hostel.rooms[r];
                free[r] = 0;
                for (int bed = 0; bed < room.beds; bed++) {
                    if (group.age >= room.age && (busy[r * MOST_BEDS + bed] & nights) == 0) {
                        free[r]++;
                    }
                }
            }
        }

        /** Returns the room that takes the whole group, as a bit; 0 if there is none. */
        int oneRoom(Hostel hostel, Booking group) {
            int best = NONE;
            for (int r = 0; r < hostel.roomCount; r++) {
                if (free[r] >= group.persons && hostel.rooms[r].takesAll(group)
                        && (best == NONE || isBetter(hostel, r, best))) {
                    best = r;
                }
            }
            return best == NONE ? 0 : 1 << best;
        }

        boolean isBetter(Hostel hostel, int r, int best) {
            return free[r] < free[best]
                    || free[r] == free[best] && hostel.rooms[r].price < hostel.rooms[best].price;
        }

        /** Returns the set of rooms for a split group, as bits; 0 if there is none. */
        int fewestRooms(Hostel hostel, Booking group) {
            int all = (1 << hostel.roomCount) - 1;
            if (!holds(hostel, group, all)) {
                return 0;
            }
            int best = all;
            for (int set = 1; set < all; set++) {
                if (Integer.bitCount(set) < Integer.bitCount(best) && holds(hostel, group, set)) {
                    best = set;
                }
            }
            return best;
        }

        boolean holds(Hostel hostel, Booking group, int set) {
            int forWomen = 0;
            int forMen = 0;
            int mixed = 0;
            for (int r = 0; r < hostel.roomCount; r++) {
                int beds = (set >> r & 1) * free[r];
                switch (hostel.rooms[r].kind) {
                    case FOR_WOMEN:
                        forWomen += beds;
                        break;
                    case FOR_MEN:
                        forMen += beds;
                        break;
                    default:
                        mixed += beds;
                        break;
                }
            }
            return Math.max(0, group.women - forWomen) + Math.max(0, group.men - forMen) <= mixed;
        }

        /** Gives each person a bed in the rooms of the set. Returns what the group pays. */
        int giveBeds(Hostel hostel, int b, int set) {
            Booking group = hostel.bookings[b];
            int nights = group.nightBits();
            int total = 0;
            for (int person = 0; person < group.persons; person++) {
                int bed = firstFree(hostel, set, person < group.women ? FOR_WOMEN : FOR_MEN, nights);
                if (bed == NONE) {
                    bed = firstFree(hostel, set, MIXED, nights);
                }
                if (bed != NONE) {
                    busy[bed] |= nights;
                    bedOfPerson[b * MOST_PERSONS + person] = bed;
                    total += hostel.rooms[bed / MOST_BEDS].price * group.nights;
                }
            }
            return group.nights >= hostel.offerNights ? total * (100 - hostel.offerPercent) / 100 : total;
        }

        int firstFree(Hostel hostel, int set, int kind, int nights) {
            for (int r = 0; r < hostel.roomCount; r++) {
                Room room = hostel.rooms[r];
                for (int bed = 0; bed < room.beds; bed++) {
                    if ((set >> r & 1) == 1 && room.kind == kind && (busy[r * MOST_BEDS + bed] & nights) == 0) {
                        return r * MOST_BEDS + bed;
                    }
                }
            }
            return NONE;
        }
    }

    /** The input buffer, read token by token. Where reading stops, the token that is wrong begins at start. */
    private static final class Input {
        final byte[] text = new byte[MOST_BYTES];
        int length;
        int at;
        int start;
        int token;
        // the letters of the latest word, a byte each, and the latest number
        long word;
        int number;

        void put(int bytes) {
            for (int shift = 24; shift >= 0; shift -= 8) {
                if (length < text.length) {
                    text[length] = (byte) (bytes >>> shift);
                    length++;
                }
            }
        }

        /** Fills a hostel by the text. Returns the error offset, or NONE. */
        int read(Hostel into) {
            into.clear();
            at = 0;
            advance();
            for (int told = 0; told < MOST_BYTES && token != END; told++) {
                boolean right;
                if (isWord("room")) {
                    right = readRoom(into);
                } else if (isWord("book")) {
                    right = readBook(into);
                } else if (isWord("cancel")) {
                    right = readCancel(into);
                } else if (isWord("absent")) {
                    right = readAbsent(into);
                } else if (isWord("over")) {
                    right = readOver(into);
                } else if (isWord("walk")) {
                    right = readWalk(into);
                } else {
                    right = isWord("offer") && readOffer(into);
                }
                if (!right) {
                    return start;
                }
                advance();
            }
            return NONE;
        }

        /** Returns the word that is the whole text; 0 if it is no word. */
        long nameOfAll() {
            at = 0;
            advance();
            return token == WORD && start == 0 && at == length ? word : 0L;
        }

        void advance() {
            while (at < length && (text[at] == ' ' || text[at] == '\n')) {
                at++;
            }
            start = at;
            if (at >= length) {
                token = END;
            } else if (text[at] >= 'a' && text[at] <= 'z') {
                takeWord();
            } else if (text[at] >= '0' && text[at] <= '9') {
                takeNumber();
            } else {
                token = text[at] == ';' ? SEMICOLON : ILLEGAL;
                at++;
            }
        }

        void takeWord() {
            word = 0L;
            while (at < length && text[at] >= 'a' && text[at] <= 'z') {
                word = word << 8 | text[at];
                at++;
            }
            token = at - start <= MOST_LETTERS ? WORD : ILLEGAL;
        }

        void takeNumber() {
            number = 0;
            while (at < length && text[at] >= '0' && text[at] <= '9') {
                number = number * 10 + text[at] - '0';
                at++;
            }
            token = at - start <= MOST_DIGITS ? NUMBER : ILLEGAL;
        }

        boolean isWord(String wanted) {
            if (token != WORD || at - start != wanted.length()) {
                return false;
            }
            for (int i = 0; i < wanted.length(); i++) {
                if (text[start + i] != wanted.charAt(i)) {
                    return false;
                }
            }
            return true;
        }

        boolean readNumber(int least, int most) {
            advance();
            return token == NUMBER && number >= least && number <= most;
        }

        boolean readEnd() {
            advance();
            return token == SEMICOLON;
        }

        boolean readRoom(Hostel into) {
            if (into.roomCount >= MOST_ROOMS) {
                return false;
            }
            Room room = into.rooms[into.roomCount];
            advance();
            if (token != WORD || into.roomNamed(word) != NONE) {
                return false;
            }
            room.name = word;
            advance();
            room.kind = kindTold();
            if (room.kind == NONE || !readNumber(1, MOST_BEDS)) {
                return false;
            }
            room.beds = number;
            if (!readNumber(0, MOST_AGE)) {
                return false;
            }
            room.age = number;
            if (!readNumber(1, MOST_PRICE)) {
                return false;
            }
            room.price = number;
            if (!readEnd()) {
                return false;
            }
            into.roomCount++;
            into.bedCount += room.beds;
            return true;
        }

        int kindTold() {
            if (isWord("mixed")) {
                return MIXED;
            }
            if (isWord("women")) {
                return FOR_WOMEN;
            }
            return isWord("men") ? FOR_MEN : NONE;
        }

        boolean readBook(Hostel into) {
            if (into.bookingCount >= MOST_BOOKINGS) {
                return false;
            }
            Booking group = into.bookings[into.bookingCount];
            advance();
            if (token != WORD || into.bookingNamed(word) != NONE) {
                return false;
            }
            long name = word;
            if (!readGroup(group)) {
                return false;
            }
            group.name = name;
            advance();
            if (isWord("together")) {
                group.together = true;
                advance();
            }
            if (token != SEMICOLON) {
                return false;
            }
            into.tellNext();
            return true;
        }

        /** Reads the six numbers of a booking. */
        boolean readGroup(Booking group) {
            if (!readNumber(0, ALL_NIGHTS - 1)) {
                return false;
            }
            int from = number;
            if (!readNumber(1, ALL_NIGHTS - from)) {
                return false;
            }
            int nights = number;
            if (!readNumber(0, MOST_PERSONS)) {
                return false;
            }
            int women = number;
            if (!readNumber(women == 0 ? 1 : 0, MOST_PERSONS - women)) {
                return false;
            }
            int men = number;
            if (!readNumber(0, MOST_AGE)) {
                return false;
            }
            int age = number;
            if (!readNumber(0, 100)) {
                return false;
            }
            group.fill(from, nights, women, men, age, number);
            return true;
        }

        /** Reads the NAME of a booking that is not cancelled. Returns its number, or NONE. */
        int readBooked(Hostel into) {
            advance();
            int b = token == WORD ? into.bookingNamed(word) : NONE;
            return b != NONE && into.bookings[b].state != CANCELLED ? b : NONE;
        }

        boolean readCancel(Hostel into) {
            int b = readBooked(into);
            if (b == NONE || !readEnd()) {
                return false;
            }
            into.drop(b);
            into.acceptWaiting();
            return true;
        }

        boolean readAbsent(Hostel into) {
            int b = readBooked(into);
            if (b == NONE || !readEnd()) {
                return false;
            }
            into.bookings[b].absent = true;
            return true;
        }

        boolean readOver(Hostel into) {
            if (!readNumber(0, MOST_PERCENT)) {
                return false;
            }
            into.over = number;
            return readEnd();
        }

        boolean readWalk(Hostel into) {
            if (!readNumber(0, MOST_WALK)) {
                return false;
            }
            into.walk = number;
            return readEnd();
        }

        boolean readOffer(Hostel into) {
            if (!readNumber(2, ALL_NIGHTS)) {
                return false;
            }
            into.offerNights = number;
            if (!readNumber(0, MOST_PERCENT)) {
                return false;
            }
            into.offerPercent = number;
            return readEnd();
        }
    }
}
