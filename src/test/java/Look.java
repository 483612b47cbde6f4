import java.util.NoSuchElementException;

/**
 * What an object tells, as a text. An object is promised for 512 calls only, so a look at a small hostel (up to six
 * beds and six bookings, in the nights 0 to 8) takes some 300.
 */
final class Look {
    private static final int NIGHTS = 9;

    private Look() {
    }

    /** All but the input buffer, the error offset and the formatted text: what undo() restores. */
    static String atHostel(HostelBeds hostel) {
        StringBuilder all = new StringBuilder();
        for (int what = 0; what < 6; what++) {
            all.append(" c").append(hostel.count(what));
        }
        for (int which = 0; which < 4; which++) {
            all.append(" s").append(hostel.setting(which));
        }
        for (int place = 0; place < hostel.count(3); place++) {
            all.append(" w").append(hostel.waiting(place));
        }
        atRooms(hostel, all);
        atBookings(hostel, all);
        atNights(hostel, all);
        return all.append(" net").append(hostel.net()).append(',').append(hostel.walkCost())
                .append(" full").append(hostel.fullNights()).append(" over").append(hostel.bestOver()).toString();
    }

    private static void atRooms(HostelBeds hostel, StringBuilder all) {
        int rooms = hostel.count(0);
        for (int room = 0; room < rooms; room++) {
            for (int what = 0; what < 4; what++) {
                all.append(what == 0 ? " r" : ",").append(hostel.room(room, what));
            }
            int beds = hostel.room(room, 1);
            for (int bed = 0; bed < beds; bed++) {
                all.append(" f").append(hostel.longestFree(room, bed));
            }
        }
    }

    private static void atBookings(HostelBeds hostel, StringBuilder all) {
        int bookings = hostel.count(2);
        for (int booking = 0; booking < bookings; booking++) {
            for (int what = 0; what < 8; what++) {
                all.append(what == 0 ? " b" : ",").append(hostel.booking(booking, what));
            }
            all.append(';').append(hostel.state(booking)).append(',').append(hostel.placed(booking)).append(',')
                    .append(hostel.roomsOf(booking)).append(',').append(hostel.pays(booking)).append(',')
                    .append(hostel.extendable(booking)).append(',').append(hostel.netWithout(booking));
            int persons = hostel.booking(booking, 2) + hostel.booking(booking, 3);
            for (int person = 0; person < persons && hostel.roomsOf(booking) != 0; person++) {
                all.append(" p").append(hostel.roomOf(booking, person)).append(',').append(hostel.bedOf(booking, person));
            }
        }
    }

    private static void atNights(HostelBeds hostel, StringBuilder all) {
        int rooms = hostel.count(0);
        for (int night = 0; night < NIGHTS; night++) {
            all.append(" n").append(hostel.occupied(night)).append(',').append(hostel.booked(night)).append(',')
                    .append(hostel.walked(night)).append(',').append(hostel.risk(night)).append(',')
                    .append(hostel.expectedWalks(night)).append(',').append(hostel.chance(night, 2));
            for (int room = 0; room < rooms; room++) {
                all.append(',').append(hostel.freeBeds(room, night));
            }
        }
    }

    /** The input buffer's length, and what is found by it; the error offset and the formatted text. */
    static String atTexts(HostelBeds hostel) {
        int length = hostel.append(0, 0, 0, 0, 0) - 20;
        hostel.truncate(length);
        StringBuilder all = new StringBuilder("buffer " + length + ',' + found(hostel, true) + ',' + found(hostel, false));
        all.append(" error ").append(hostel.errorOffset()).append(" formatted ");
        for (int i = 0; i < 200; i++) {
            try {
                all.append(hostel.formattedCharacter(i));
            } catch (IndexOutOfBoundsException e) {
                return all.toString();
            }
        }
        return all.toString();
    }

    private static int found(HostelBeds hostel, boolean isRoom) {
        try {
            return hostel.find(isRoom);
        } catch (NoSuchElementException e) {
            return -1;
        }
    }

    /** Undoes all that can be undone; returns what undo() answered, with the net and the states behind it. */
    static String undone(HostelBeds hostel) {
        StringBuilder all = new StringBuilder();
        for (int i = 0; i < 12; i++) {
            try {
                all.append(" u").append(hostel.undo()).append(',').append(hostel.net()).append(',')
                        .append(hostel.setting(1)).append(',').append(hostel.count(2)).append(',').append(hostel.count(3));
            } catch (IllegalStateException e) {
                return all.append(" end").toString();
            }
        }
        return all.toString();
    }
}
