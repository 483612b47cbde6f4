import java.util.ArrayList;
import java.util.List;
import java.util.NoSuchElementException;
import java.util.function.Consumer;

/** The sentences of 'What it is' and 'EDITS AND EXCEPTIONS' that name an edge, a method each. */
public final class CallEdgesTest {
    private static final Class<IllegalArgumentException> ARGUMENT = IllegalArgumentException.class;
    private static final Class<IllegalStateException> STATE = IllegalStateException.class;
    private static final Class<IndexOutOfBoundsException> INDEX = IndexOutOfBoundsException.class;
    private static final Class<NoSuchElementException> NO_SUCH = NoSuchElementException.class;

    private record Call(String name, Class<? extends RuntimeException> due, Consumer<HostelBeds> run) {
    }

    // x is split, y walked, z and w wait (w is absent), v is in one room, u is cancelled
    private static final String TEXT = "room hall women 2 18 9;room b mixed 3 0 5;room c men 1 0 7;over 30;walk 44;offer 3 20;"
            + "book x 0 3 3 1 20 50;book y 1 2 1 1 0 70 together;book z 1 2 2 0 0 30;book w 1 1 0 2 0 20;absent w;"
            + "book v 2 2 1 0 30 90;book u 4 1 1 0 0 0;cancel u;";

    public static void main(String[] args) {
        fiveHundredAndTwelveCalls();
        theSevenAreEdits();
        recordedEvenIfNothingChanges();
        throwingOnesAreNotRecorded();
        othersAreNotRecorded();
        latestTen();
        aroundTheTen();
        undoingRestoresEverything();
        exceptTheTexts();
        firstListed();
        throwingChangesNothing();
        throwingAtAFullBuffer();
        throwingAtSixteenBookings();
        exceptThatLoadEmpties();
        noSuchRoom();
        noSuchBed();
        noSuchBooking();
        noSuchPerson();
        noSuchNight();
        Check.finish();
    }

    /** A hostel with all kinds of bookings, two edits, a formatted text, a failed load and a NAME in the buffer. */
    private static HostelBeds small() {
        HostelBeds hostel = Check.loaded(TEXT);
        hostel.setWalk(50);
        hostel.setPrice(2, 8);
        hostel.format(1);
        Check.put(hostel, "over 51;");
        Check.fails("load()", ARGUMENT, hostel::load);
        Check.put(hostel, "hall");
        return hostel;
    }

    private static void fiveHundredAndTwelveCalls() {
        Check.sentence("An object is used for at most 512 calls after it has been made");
        HostelBeds edited = new HostelBeds();
        for (int call = 0; call < 500; call++) {
            Check.due("setWalk", edited.setWalk(call % 301), call == 0 ? 60 : (call - 1) % 301);
        }
        for (int left = 9; left >= 0; left--) {
            Check.due("undo", edited.undo(), left);
        }
        Check.due("call 511", edited.setting(1), 489 % 301);
        Check.fails("call 512", STATE, edited::undo);
        HostelBeds loaded = new HostelBeds();
        for (int call = 0; call < 255; call++) {
            loaded.append(0x6F766572, 0x20202020, 0x20202020, 0x20202020, 0x2020313B);
            Check.due("load " + call, loaded.load(), 0);
        }
        Check.due("call 511", loaded.setting(0), 1);
        Check.due("call 512", loaded.errorOffset(), -1);
        HostelBeds booked = Check.loaded("room a men 10 0 1;");
        for (int call = 0; call < 250; call++) {
            Check.due("book " + call, booked.book(call % 30, 1, 0, 1, 0, 0), 0);
            Check.due("undo " + call, booked.undo(), 0);
        }
        Check.due("bestOver()", booked.bestOver(), 0);
        Check.due("bestStay()", booked.bestStay(0, 0, 1, 0), 30);
    }

    private static List<Consumer<HostelBeds>> edits() {
        return List.of(h -> h.book(3, 2, 1, 0, 40, 10), h -> h.cancel(0), h -> h.setAbsent(0, true), h -> h.setTogether(0, true),
                h -> h.setOver(50), h -> h.setWalk(7), h -> h.setPrice(1, 100));
    }

    private static void theSevenAreEdits() {
        Check.sentence("The methods book(), cancel(), setAbsent(), setTogether(), setOver(), setWalk() and setPrice() are edits.");
        HostelBeds hostel = Check.loaded(TEXT);
        int number = 0;
        for (Consumer<HostelBeds> edit : edits()) {
            edit.accept(hostel);
            number++;
            Check.due("undo() of edit " + number, hostel.undo(), number - 1);
            edit.accept(hostel);
        }
        for (int left = 6; left >= 0; left--) {
            Check.due("undo()", hostel.undo(), left);
        }
        Check.fails("undo()", STATE, hostel::undo);
    }

    private static void recordedEvenIfNothingChanges() {
        Check.sentence("A call of an edit that does not throw is recorded, even if it changes nothing.");
        List<Consumer<HostelBeds>> nothing = List.of(h -> h.setAbsent(0, false), h -> h.setAbsent(3, true), h -> h.setAbsent(5, false),
                h -> h.setTogether(0, false), h -> h.setTogether(1, true), h -> h.setOver(30), h -> h.setWalk(44), h -> h.setPrice(0, 9));
        HostelBeds all = Check.loaded(TEXT);
        all.setWalk(43);
        all.setWalk(44);
        for (Consumer<HostelBeds> edit : nothing) {
            HostelBeds hostel = Check.loaded(TEXT);
            hostel.setWalk(44);
            edit.accept(hostel);
            Check.due("undo()", hostel.undo(), 1);
            Check.due("undo()", hostel.undo(), 0);
            Check.fails("undo()", STATE, hostel::undo);
            edit.accept(all);
        }
        for (int left = 9; left >= 0; left--) {
            Check.due("undo() of all", all.undo(), left);
        }
        Check.due("setting(1)", all.setting(1), 44);
    }

    private static void throwingOnesAreNotRecorded() {
        Check.sentence("A call of an edit that does not throw is recorded - one that throws is not");
        HostelBeds hostel = Check.loaded(TEXT);
        hostel.setWalk(1);
        Check.fails("book", ARGUMENT, () -> hostel.book(0, 1, 0, 0, 0, 0));
        Check.fails("cancel", INDEX, () -> hostel.cancel(6));
        Check.fails("cancel", STATE, () -> hostel.cancel(5));
        Check.fails("setAbsent", INDEX, () -> hostel.setAbsent(6, true));
        Check.fails("setTogether", INDEX, () -> hostel.setTogether(6, true));
        Check.fails("setOver", ARGUMENT, () -> hostel.setOver(51));
        Check.fails("setWalk", ARGUMENT, () -> hostel.setWalk(301));
        Check.fails("setPrice", INDEX, () -> hostel.setPrice(3, 1));
        Check.fails("setPrice", ARGUMENT, () -> hostel.setPrice(0, 0));
        Check.due("undo()", hostel.undo(), 0);
        Check.due("setting(1)", hostel.setting(1), 44);
    }

    private static void othersAreNotRecorded() {
        Check.sentence("The methods book(), .. and setPrice() are edits. - others are not");
        HostelBeds hostel = Check.loaded(TEXT);
        hostel.setWalk(1);
        Check.put(hostel, "hall");
        hostel.find(true);
        hostel.format(0);
        hostel.formattedCharacter(0);
        hostel.wouldBe(0, 1, 1, 0, 0);
        hostel.bestStay(0, 1, 0, 0);
        hostel.netWithout(0);
        hostel.bestOver();
        hostel.truncate(0);
        Check.due("undo()", hostel.undo(), 0);
        Check.fails("undo()", STATE, hostel::undo);
        // an undo is no edit: it cannot be undone
        Check.due("setting(1)", hostel.setting(1), 44);
    }

    private static void latestTen() {
        Check.sentence("The latest 10 recorded edits can be undone.");
        for (int edits = 0; edits <= 33; edits++) {
            HostelBeds hostel = new HostelBeds();
            for (int cost = 1; cost <= edits; cost++) {
                hostel.setWalk(cost);
            }
            int can = Math.min(edits, 10);
            for (int left = can - 1; left >= 0; left--) {
                Check.due("undo() behind " + edits, hostel.undo(), left);
                int cost = edits - can + left;
                Check.due("setting(1) behind " + edits, hostel.setting(1), cost == 0 ? 60 : cost);
            }
            Check.fails("undo() behind " + edits, STATE, hostel::undo);
        }
    }

    private static void aroundTheTen() {
        Check.sentence("The latest 10 recorded edits can be undone. - also when edits and undos take turns");
        HostelBeds hostel = new HostelBeds();
        List<Integer> past = new ArrayList<>();
        int dropped = 0;
        for (int step = 0; step < 140; step++) {
            boolean undoes = step % 7 > 3 || step % 31 > 25;
            if (undoes && past.size() > dropped) {
                int cost = past.remove(past.size() - 1);
                Check.due("undo() at step " + step, hostel.undo(), past.size() - dropped);
                Check.due("setting(1) at step " + step, hostel.setting(1), cost);
            } else if (undoes) {
                Check.fails("undo() at step " + step, STATE, hostel::undo);
            } else {
                past.add(hostel.setWalk(step));
                dropped = Math.max(dropped, past.size() - 10);
            }
        }
    }

    private static void undoingRestoresEverything() {
        Check.sentence("Undoing restores everything as it was before the edit");
        String before = Look.atHostel(Check.loaded(TEXT));
        int number = 0;
        for (Consumer<HostelBeds> edit : edits()) {
            number++;
            HostelBeds changed = Check.loaded(TEXT);
            edit.accept(changed);
            Check.due("edit " + number + " changes something", Look.atHostel(changed).equals(before), false);
            HostelBeds hostel = Check.loaded(TEXT);
            edit.accept(hostel);
            hostel.undo();
            Check.due("all behind undo() of edit " + number, Look.atHostel(hostel), before);
        }
        HostelBeds all = Check.loaded(TEXT);
        for (Consumer<HostelBeds> edit : edits()) {
            edit.accept(all);
        }
        for (Consumer<HostelBeds> edit : edits()) {
            all.undo();
        }
        Check.due("all behind undo() of all", Look.atHostel(all), before);
        listIsRestored();
    }

    private static void listIsRestored() {
        HostelBeds hostel = Check.loaded("room a men 2 0 1;book x 0 1 0 2 0 0;book y 0 1 0 1 0 0;book z 0 1 0 3 0 0;book w 0 1 0 1 0 0;");
        hostel.cancel(0);
        Check.due("list", hostel.count(3) + ": " + hostel.waiting(0), "1: 2");
        hostel.undo();
        Check.due("list", hostel.count(3) + ": " + hostel.waiting(0) + " " + hostel.waiting(1) + " " + hostel.waiting(2), "3: 1 2 3");
        hostel.cancel(2);
        hostel.undo();
        Check.due("list", hostel.count(3) + ": " + hostel.waiting(0) + " " + hostel.waiting(1) + " " + hostel.waiting(2), "3: 1 2 3");
        hostel.setOver(50);
        hostel.undo();
        Check.due("list", hostel.count(3) + ": " + hostel.waiting(0) + " " + hostel.waiting(1) + " " + hostel.waiting(2), "3: 1 2 3");
        Check.due("setting(0)", hostel.setting(0), 0);
        // a booking that is undone is gone, and its number is given again
        Check.due("book()", hostel.book(5, 1, 0, 1, 0, 100), 4);
        hostel.undo();
        Check.fails("state(4)", INDEX, () -> hostel.state(4));
        Check.due("booked(5)", hostel.booked(5), 0);
        Check.due("chance(5, 0)", hostel.chance(5, 0), 1.0);
        Check.due("book()", hostel.book(6, 1, 0, 1, 0, 100), 4);
    }

    private static void exceptTheTexts() {
        Check.sentence("except the input buffer, the error offset and the formatted text");
        int number = 0;
        for (Consumer<HostelBeds> edit : edits()) {
            number++;
            HostelBeds hostel = Check.loaded(TEXT);
            edit.accept(hostel);
            hostel.format(1);
            Check.put(hostel, "walk 5;over 51;");
            Check.fails("load()", ARGUMENT, hostel::load);
            Check.put(hostel, "hall");
            String before = Look.atTexts(hostel);
            hostel.undo();
            Check.due("texts behind undo() of edit " + number, Look.atTexts(hostel), before);
            Check.due("errorOffset()", hostel.errorOffset(), 12);
            Check.due("find(true)", hostel.find(true), 0);
        }
    }

    private static void firstListed() {
        Check.sentence("If several exceptions apply, the one that is listed first in the method's throws clause is thrown.");
        HostelBeds hostel = Check.loaded(TEXT);
        Check.fails("room(3, 4)", INDEX, () -> hostel.room(3, 4));
        Check.fails("room(-1, -1)", INDEX, () -> hostel.room(-1, -1));
        Check.fails("booking(6, 8)", INDEX, () -> hostel.booking(6, 8));
        Check.fails("booking(-1, -1)", INDEX, () -> hostel.booking(-1, -1));
        // y is walked, z waits, w is absent, u is cancelled
        for (int booking : new int[] {1, 2, 3, 5}) {
            int persons = hostel.booking(booking, 2) + hostel.booking(booking, 3);
            Check.fails("roomOf of no person", INDEX, () -> hostel.roomOf(booking, persons));
            Check.fails("bedOf of no person", INDEX, () -> hostel.bedOf(booking, persons));
            Check.fails("roomOf of no person", INDEX, () -> hostel.roomOf(booking, -1));
            Check.fails("bedOf of no person", INDEX, () -> hostel.bedOf(booking, -1));
            Check.fails("roomOf of no bed", NO_SUCH, () -> hostel.roomOf(booking, persons - 1));
            Check.fails("bedOf of no bed", NO_SUCH, () -> hostel.bedOf(booking, persons - 1));
        }
        Check.fails("setPrice(3, 0)", INDEX, () -> hostel.setPrice(3, 0));
        Check.fails("setPrice(-1, 201)", INDEX, () -> hostel.setPrice(-1, 201));
        HostelBeds full = new HostelBeds();
        for (int booking = 0; booking < 16; booking++) {
            full.book(0, 1, 1, 0, 0, 0);
        }
        Check.fails("book", STATE, () -> full.book(0, 1, 1, 0, 0, 0));
        Check.fails("book of FROM 30", ARGUMENT, () -> full.book(30, 1, 1, 0, 0, 0));
        Check.fails("book of 0 NIGHTS", ARGUMENT, () -> full.book(0, 0, 1, 0, 0, 0));
        Check.fails("book of 13 WOMEN", ARGUMENT, () -> full.book(0, 1, 13, 0, 0, 0));
        Check.fails("book of nobody", ARGUMENT, () -> full.book(0, 1, 0, 0, 0, 0));
        Check.fails("book of AGE 100", ARGUMENT, () -> full.book(0, 1, 1, 0, 100, 0));
        Check.fails("book of CHANCE 101", ARGUMENT, () -> full.book(0, 1, 1, 0, 0, 101));
    }

    private static List<Call> throwing() {
        List<Call> calls = new ArrayList<>();
        calls.add(new Call("truncate", ARGUMENT, h -> h.truncate(5)));
        calls.add(new Call("truncate", ARGUMENT, h -> h.truncate(-1)));
        calls.add(new Call("count", ARGUMENT, h -> h.count(6)));
        calls.add(new Call("setting", ARGUMENT, h -> h.setting(4)));
        calls.add(new Call("room", INDEX, h -> h.room(3, 0)));
        calls.add(new Call("room", ARGUMENT, h -> h.room(0, 4)));
        calls.add(new Call("booking", INDEX, h -> h.booking(6, 0)));
        calls.add(new Call("booking", ARGUMENT, h -> h.booking(0, 8)));
        calls.add(new Call("find", NO_SUCH, h -> h.find(false)));
        calls.add(new Call("state", INDEX, h -> h.state(6)));
        calls.add(new Call("waiting", INDEX, h -> h.waiting(2)));
        calls.add(new Call("placed", INDEX, h -> h.placed(6)));
        calls.add(new Call("roomsOf", INDEX, h -> h.roomsOf(6)));
        calls.add(new Call("roomOf", INDEX, h -> h.roomOf(0, 4)));
        calls.add(new Call("roomOf", NO_SUCH, h -> h.roomOf(1, 0)));
        calls.add(new Call("bedOf", INDEX, h -> h.bedOf(0, 4)));
        calls.add(new Call("bedOf", NO_SUCH, h -> h.bedOf(1, 0)));
        calls.add(new Call("occupant", INDEX, h -> h.occupant(0, 2, 0)));
        calls.add(new Call("freeBeds", INDEX, h -> h.freeBeds(0, 30)));
        calls.add(new Call("occupied", INDEX, h -> h.occupied(30)));
        calls.add(new Call("booked", INDEX, h -> h.booked(30)));
        calls.add(new Call("walked", INDEX, h -> h.walked(30)));
        calls.add(new Call("longestFree", INDEX, h -> h.longestFree(0, 2)));
        calls.add(new Call("extendable", INDEX, h -> h.extendable(6)));
        calls.add(new Call("pays", INDEX, h -> h.pays(6)));
        calls.add(new Call("chance", INDEX, h -> h.chance(30, 0)));
        calls.add(new Call("risk", INDEX, h -> h.risk(30)));
        calls.add(new Call("expectedWalks", INDEX, h -> h.expectedWalks(30)));
        calls.add(new Call("wouldBe", ARGUMENT, h -> h.wouldBe(0, 1, 1, 0, 100)));
        calls.add(new Call("bestStay", ARGUMENT, h -> h.bestStay(0, 1, 0, 100)));
        calls.add(new Call("netWithout", INDEX, h -> h.netWithout(6)));
        calls.add(new Call("book", ARGUMENT, h -> h.book(0, 1, 1, 0, 0, 101)));
        calls.add(new Call("cancel", INDEX, h -> h.cancel(6)));
        calls.add(new Call("cancel", STATE, h -> h.cancel(5)));
        calls.add(new Call("setAbsent", INDEX, h -> h.setAbsent(6, true)));
        calls.add(new Call("setTogether", INDEX, h -> h.setTogether(6, true)));
        calls.add(new Call("setOver", ARGUMENT, h -> h.setOver(51)));
        calls.add(new Call("setWalk", ARGUMENT, h -> h.setWalk(301)));
        calls.add(new Call("setPrice", INDEX, h -> h.setPrice(3, 1)));
        calls.add(new Call("setPrice", ARGUMENT, h -> h.setPrice(0, 201)));
        calls.add(new Call("format", INDEX, h -> h.format(30)));
        calls.add(new Call("formattedCharacter", INDEX, h -> h.formattedCharacter(100)));
        return calls;
    }

    private static void throwingChangesNothing() {
        Check.sentence("A call that throws changes nothing");
        String hostel = Look.atHostel(small());
        String texts = Look.atTexts(small());
        String undone = Look.undone(small());
        Check.due("two edits", undone.startsWith(" u1,"), true);
        for (Call call : throwing()) {
            HostelBeds one = small();
            Check.fails(call.name, call.due, () -> call.run.accept(one));
            Check.due("texts behind " + call.name, Look.atTexts(one), texts);
            Check.due("hostel behind " + call.name, Look.atHostel(one), hostel);
            HostelBeds two = small();
            Check.fails(call.name, call.due, () -> call.run.accept(two));
            Check.due("undo() behind " + call.name, Look.undone(two), undone);
        }
        HostelBeds ended = small();
        Look.undone(ended);
        HostelBeds again = small();
        Look.undone(again);
        Check.fails("undo", STATE, again::undo);
        Check.due("hostel behind undo()", Look.atHostel(again), Look.atHostel(ended));
        Check.due("texts behind undo()", Look.atTexts(again), texts);
    }

    private static void throwingAtAFullBuffer() {
        Check.sentence("A call that throws changes nothing - append() to a full buffer");
        HostelBeds hostel = Check.loaded("room hall men 1 0 1;");
        Check.put(hostel, "hall");
        for (int length = 24; length <= 684; length += 20) {
            Check.due("append", hostel.append(-1, -1, -1, -1, -1), length);
        }
        Check.fails("append", STATE, () -> hostel.append(0x68616C6C, 0, 0, 0, 0));
        Check.fails("truncate(685)", ARGUMENT, () -> hostel.truncate(685));
        hostel.truncate(684);
        hostel.truncate(4);
        Check.due("find", hostel.find(true), 0);
    }

    private static void throwingAtSixteenBookings() {
        Check.sentence("A call that throws changes nothing - book() of a 17th booking");
        HostelBeds hostel = Check.loaded("room a men 10 0 1;");
        for (int booking = 0; booking < 16; booking++) {
            hostel.book(booking % 4, 1, 0, 3, 0, 50);
        }
        Check.fails("book that would be accepted", STATE, () -> hostel.book(20, 1, 0, 1, 0, 100));
        Check.fails("book that would wait", STATE, () -> hostel.book(0, 1, 0, 1, 0, 100));
        Check.due("counts", hostel.count(2) + " " + hostel.count(3) + " " + hostel.count(4), "16 4 12");
        Check.due("night 20", hostel.booked(20) + " " + hostel.occupied(20) + " " + hostel.chance(20, 1), "0 0 0.0");
        Check.due("booking(15, 0)", hostel.booking(15, 0), 3);
        Check.fails("state(16)", INDEX, () -> hostel.state(16));
        Check.fails("waiting(4)", INDEX, () -> hostel.waiting(4));
        Check.due("undo()", hostel.undo(), 9);
        Check.due("count(2)", hostel.count(2), 15);
    }

    private static void exceptThatLoadEmpties() {
        Check.sentence("except that load() empties the buffer and sets the error offset");
        HostelBeds hostel = small();
        String before = Look.atHostel(small());
        hostel.truncate(0);
        Check.put(hostel, "room z men 1 0 1;book q 0 1 1 0 0 0;over 5;walk 1;offer 2 2;absent q;cancel q;cancel q;");
        Check.fails("load()", ARGUMENT, hostel::load);
        Check.fails("truncate(1)", ARGUMENT, () -> hostel.truncate(1));
        Check.due("errorOffset()", hostel.errorOffset(), 85);
        Check.due("hostel behind load()", Look.atHostel(hostel), before);
        HostelBeds two = small();
        String undone = Look.undone(small());
        Check.fails("load()", ARGUMENT, two::load);
        Check.due("undo() behind load()", Look.undone(two), undone);
        Check.due("texts", Look.atTexts(two), "buffer 0,-1,-1 error 0 formatted hall 2/2, b 2/3, c 0/1 +2");
    }

    private static final int[] WRONG = {-1, -2, 30, 31, 100, 256, 65536, Integer.MAX_VALUE, Integer.MIN_VALUE, Integer.MIN_VALUE + 1};

    private static void noSuchRoom() {
        Check.sentence("A parameter named room that does not exist throws IndexOutOfBoundsException.");
        HostelBeds hostel = Check.loaded(TEXT);
        noSuchRoom(hostel, 3);
        noSuchRoom(hostel, 8);
        for (int wrong : WRONG) {
            noSuchRoom(hostel, wrong);
        }
        noSuchRoom(new HostelBeds(), 0);
        Check.due("room(2, 3)", hostel.room(2, 3), 7);
        Check.due("freeBeds(2, 29)", hostel.freeBeds(2, 29), 1);
        Check.due("setPrice(2, 1)", hostel.setPrice(2, 1), 7);
    }

    private static void noSuchRoom(HostelBeds hostel, int room) {
        Check.fails("room(" + room + ", 0)", INDEX, () -> hostel.room(room, 0));
        Check.fails("occupant(" + room + ", 0, 0)", INDEX, () -> hostel.occupant(room, 0, 0));
        Check.fails("freeBeds(" + room + ", 0)", INDEX, () -> hostel.freeBeds(room, 0));
        Check.fails("longestFree(" + room + ", 0)", INDEX, () -> hostel.longestFree(room, 0));
        Check.fails("setPrice(" + room + ", 1)", INDEX, () -> hostel.setPrice(room, 1));
    }

    private static void noSuchBed() {
        Check.sentence("A parameter named bed (of the room) that does not exist throws IndexOutOfBoundsException.");
        HostelBeds hostel = Check.loaded(TEXT + "room d mixed 10 0 1;");
        int[] beds = {2, 3, 1, 10};
        for (int room = 0; room < 4; room++) {
            noSuchBed(hostel, room, beds[room]);
            for (int wrong : WRONG) {
                noSuchBed(hostel, room, wrong);
            }
            int last = beds[room] - 1;
            Check.due("occupant of the last bed", hostel.occupant(room, last, 29), -1);
            Check.due("longestFree of the last bed", hostel.longestFree(room, last) > 0, true);
        }
    }

    private static void noSuchBed(HostelBeds hostel, int room, int bed) {
        Check.fails("occupant(" + room + ", " + bed + ", 0)", INDEX, () -> hostel.occupant(room, bed, 0));
        Check.fails("longestFree(" + room + ", " + bed + ")", INDEX, () -> hostel.longestFree(room, bed));
    }

    private static void noSuchBooking() {
        Check.sentence("A parameter named booking that does not exist throws IndexOutOfBoundsException.");
        HostelBeds hostel = Check.loaded(TEXT);
        noSuchBooking(hostel, 6);
        noSuchBooking(hostel, 16);
        for (int wrong : WRONG) {
            noSuchBooking(hostel, wrong);
        }
        noSuchBooking(new HostelBeds(), 0);
        HostelBeds full = new HostelBeds();
        for (int booking = 0; booking < 16; booking++) {
            full.book(0, 1, 1, 0, 0, 0);
        }
        noSuchBooking(full, 16);
        // a what-if adds no booking
        full.wouldBe(0, 1, 1, 0, 0);
        noSuchBooking(full, 16);
        Check.due("state(15)", full.state(15), 0);
        Check.due("setAbsent(15, true)", full.setAbsent(15, true), false);
        Check.due("cancel(15)", full.cancel(15), 0);
    }

    private static void noSuchBooking(HostelBeds hostel, int booking) {
        Check.fails("booking(" + booking + ", 0)", INDEX, () -> hostel.booking(booking, 0));
        Check.fails("state(" + booking + ")", INDEX, () -> hostel.state(booking));
        Check.fails("placed(" + booking + ")", INDEX, () -> hostel.placed(booking));
        Check.fails("roomsOf(" + booking + ")", INDEX, () -> hostel.roomsOf(booking));
        Check.fails("roomOf(" + booking + ", 0)", INDEX, () -> hostel.roomOf(booking, 0));
        Check.fails("bedOf(" + booking + ", 0)", INDEX, () -> hostel.bedOf(booking, 0));
        Check.fails("extendable(" + booking + ")", INDEX, () -> hostel.extendable(booking));
        Check.fails("pays(" + booking + ")", INDEX, () -> hostel.pays(booking));
        Check.fails("netWithout(" + booking + ")", INDEX, () -> hostel.netWithout(booking));
        Check.fails("cancel(" + booking + ")", INDEX, () -> hostel.cancel(booking));
        Check.fails("setAbsent(" + booking + ", true)", INDEX, () -> hostel.setAbsent(booking, true));
        Check.fails("setTogether(" + booking + ", true)", INDEX, () -> hostel.setTogether(booking, true));
    }

    private static void noSuchPerson() {
        Check.sentence("A parameter named person (of the booking) that does not exist throws IndexOutOfBoundsException.");
        HostelBeds hostel = Check.loaded("room a mixed 10 0 1;room b mixed 10 0 1;book x 0 1 0 1 0 0;book y 0 1 3 2 0 0;book z 1 1 12 0 0 0;");
        int[] persons = {1, 5, 12};
        for (int booking = 0; booking < 3; booking++) {
            noSuchPerson(hostel, booking, persons[booking]);
            for (int wrong : WRONG) {
                noSuchPerson(hostel, booking, wrong);
            }
        }
        Check.due("last of x", hostel.bedOf(0, 0), 0);
        Check.due("last of y", hostel.bedOf(1, 4), 5);
        Check.due("last of z", hostel.roomOf(2, 11) + " " + hostel.bedOf(2, 11), "1 1");
    }

    private static void noSuchPerson(HostelBeds hostel, int booking, int person) {
        Check.fails("roomOf(" + booking + ", " + person + ")", INDEX, () -> hostel.roomOf(booking, person));
        Check.fails("bedOf(" + booking + ", " + person + ")", INDEX, () -> hostel.bedOf(booking, person));
    }

    private static void noSuchNight() {
        Check.sentence("A parameter named night (0 to 29) that does not exist throws IndexOutOfBoundsException.");
        HostelBeds hostel = Check.loaded("room a mixed 2 0 1;book x 0 1 1 0 0 100;book y 29 1 2 0 0 100;");
        for (int wrong : WRONG) {
            noSuchNight(hostel, wrong);
        }
        int[] nights = {0, 1, 28, 29};
        int[] due = {1, 0, 0, 2};
        for (int i = 0; i < 4; i++) {
            int night = nights[i];
            Check.due("occupant(0, 0, " + night + ")", hostel.occupant(0, 0, night) != -1, due[i] > 0);
            Check.due("freeBeds(0, " + night + ")", hostel.freeBeds(0, night), 2 - due[i]);
            Check.due("occupied(" + night + ")", hostel.occupied(night), due[i]);
            Check.due("booked(" + night + ")", hostel.booked(night), due[i]);
            Check.due("walked(" + night + ")", hostel.walked(night), 0);
            Check.due("chance(" + night + ", " + due[i] + ")", hostel.chance(night, due[i]), 1.0);
            Check.due("risk(" + night + ")", hostel.risk(night), 0.0);
            Check.due("expectedWalks(" + night + ")", hostel.expectedWalks(night), 0.0);
            Check.due("format(" + night + ")", hostel.format(night), 5);
        }
    }

    private static void noSuchNight(HostelBeds hostel, int night) {
        Check.fails("occupant(0, 0, " + night + ")", INDEX, () -> hostel.occupant(0, 0, night));
        Check.fails("freeBeds(0, " + night + ")", INDEX, () -> hostel.freeBeds(0, night));
        Check.fails("occupied(" + night + ")", INDEX, () -> hostel.occupied(night));
        Check.fails("booked(" + night + ")", INDEX, () -> hostel.booked(night));
        Check.fails("walked(" + night + ")", INDEX, () -> hostel.walked(night));
        Check.fails("chance(" + night + ", 0)", INDEX, () -> hostel.chance(night, 0));
        Check.fails("risk(" + night + ")", INDEX, () -> hostel.risk(night));
        Check.fails("expectedWalks(" + night + ")", INDEX, () -> hostel.expectedWalks(night));
        Check.fails("format(" + night + ")", INDEX, () -> hostel.format(night));
    }
}
