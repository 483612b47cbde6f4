/** The sentences of 'BEDS' and 'CHANCES' that name an edge, a method each. */
public final class BedEdgesTest {
    public static void main(String[] args) {
        acceptedAndNotAbsent();
        byFromThenByNumber();
        bedIsFree();
        forTheWholeStay();
        leastAge();
        kinds();
        freeBedsForAll();
        fewestFreeBeds();
        lowestPrice();
        lowestNumber();
        mustStayTogether();
        setsOfRooms();
        fewestRooms();
        smallestNumber();
        noSet();
        womenFirst();
        lowestBed();
        roomsForWomenFirst();
        roomsForMenFirst();
        onlyTheRoomsItGets();
        paysThePrice();
        offerNights();
        roundedDown();
        walkCosts();
        net();
        chancesAtFirst();
        comesOrNot();
        negativeNumber();
        inTheOrderOfNumbers();
        whoCounts();
        Check.finish();
    }

    private static void acceptedAndNotAbsent() {
        Check.sentence("The accepted bookings that are not absent are placed");
        HostelBeds hostel = Check.loaded("room a men 2 0 1;over 50;book x 0 1 0 1 0 0;book y 0 1 0 1 0 0;book z 0 1 0 1 0 0;"
                + "book w 0 1 0 1 0 0;absent y;");
        Check.due("beds", beds(hostel, 0) + beds(hostel, 1) + beds(hostel, 2) + beds(hostel, 3), "1: a00:1: a10:");
        hostel.setAbsent(1, false);
        Check.due("beds", beds(hostel, 0) + beds(hostel, 1) + beds(hostel, 2) + beds(hostel, 3), "1: a01: a13:0:");
        hostel.cancel(0);
        Check.due("beds", beds(hostel, 0) + beds(hostel, 1) + beds(hostel, 2) + beds(hostel, 3), "0:1: a01: a13:");
    }

    private static void byFromThenByNumber() {
        Check.sentence("are placed one after the other: by FROM, then by number");
        HostelBeds hostel = Check.loaded("room a men 4 0 1;book x 2 2 0 1 0 0;book y 1 2 0 1 0 0;book z 2 1 0 1 0 0;book w 0 30 0 1 0 0;");
        Check.due("beds", beds(hostel, 3) + beds(hostel, 1) + beds(hostel, 0) + beds(hostel, 2), "1: a01: a11: a21: a3");
        // neither a shorter stay nor a larger group comes first
        HostelBeds same = Check.loaded("room a men 6 0 1;book x 29 1 0 1 0 0;book y 28 2 0 2 0 0;book z 28 1 0 3 0 0;");
        Check.due("beds", beds(same, 1) + beds(same, 2) + beds(same, 0), "1: a0 a11: a2 a3 a41: a2");
    }

    private static void bedIsFree() {
        Check.sentence("A bed is free for a booking if no one placed before has it in one of the nights of the booking");
        // x has the bed from night 3 to night 5
        for (int from = 0; from <= 8; from++) {
            for (int nights = 1; nights <= 8; nights++) {
                HostelBeds hostel = Check.loaded("room a men 1 0 1;room b women 1 0 1;over 50;book x 3 3 0 1 0 0;");
                int placed = hostel.book(from, nights, 0, 1, 0, 0);
                boolean meets = from <= 5 && from + nights > 3;
                boolean first = from < 3;
                Check.due("x with " + from + ", " + nights, hostel.placed(0), meets && first ? 3 : 1);
                Check.due("a booking of " + from + ", " + nights, hostel.placed(placed), meets && !first ? 3 : 1);
            }
        }
        HostelBeds ends = Check.loaded("room a men 1 0 1;book x 0 1 0 1 0 0;book y 1 28 0 1 0 0;book z 29 1 0 1 0 0;");
        Check.due("one bed", beds(ends, 0) + beds(ends, 1) + beds(ends, 2), "1: a01: a01: a0");
    }

    private static void forTheWholeStay() {
        Check.sentence("everybody keeps the bed for the whole stay");
        HostelBeds hostel = Check.loaded("room a men 2 0 1;book x 0 30 0 1 0 0;book y 5 3 0 1 0 0;");
        for (int night = 0; night < 30; night++) {
            Check.due("occupant(0, 0, " + night + ")", hostel.occupant(0, 0, night), 0);
            Check.due("occupant(0, 1, " + night + ")", hostel.occupant(0, 1, night), night >= 5 && night < 8 ? 1 : -1);
        }
        // nobody moves to a bed that comes free
        HostelBeds row = Check.loaded("room a men 2 0 1;book x 0 3 0 1 0 0;book y 1 1 0 1 0 0;book z 2 2 0 1 0 0;book w 3 2 0 1 0 0;"
                + "book v 4 2 0 1 0 0;");
        Check.due("beds", beds(row, 1) + beds(row, 2) + beds(row, 3) + beds(row, 4), "1: a11: a11: a01: a1");
    }

    private static void leastAge() {
        Check.sentence("A room can be used by a booking if its AGE (the youngest) is at least the AGE of the room.");
        for (int age = 0; age <= 99; age++) {
            HostelBeds hostel = Check.loaded("room a men 2 " + age + " 1;book x 0 1 0 2 " + age + " 0;");
            Check.due("AGE " + age, hostel.placed(0), 1);
            if (age > 0) {
                HostelBeds young = Check.loaded("room a men 2 " + age + " 1;book x 0 1 0 2 " + (age - 1) + " 0;");
                Check.due("AGE below " + age, young.placed(0), 3);
            }
        }
        HostelBeds split = Check.loaded("room a men 2 18 1;room b mixed 2 17 9;room c mixed 2 16 9;book x 0 1 0 3 17 0;book y 1 1 0 3 18 0;"
                + "book z 2 1 0 3 16 0;");
        Check.due("rooms", split.roomsOf(0) + " " + split.roomsOf(1) + " " + split.roomsOf(2), "6 3 0");
    }

    private static void kinds() {
        Check.sentence("A room for women takes women only, a room for men takes men only, a mixed one takes both.");
        String[] kinds = {"mixed", "women", "men"};
        int[][] groups = {{2, 0}, {0, 2}, {1, 1}};
        int[][] due = {{1, 1, 1}, {1, 3, 3}, {3, 1, 3}};
        for (int kind = 0; kind < 3; kind++) {
            for (int group = 0; group < 3; group++) {
                HostelBeds hostel = Check.loaded("room a " + kinds[kind] + " 3 0 1;");
                int women = groups[group][0];
                int men = groups[group][1];
                Check.due(kinds[kind] + " for " + women + ", " + men, hostel.wouldBe(0, 1, women, men, 0), due[kind][group]);
                hostel.book(0, 1, women, men, 0, 0);
                Check.due(kinds[kind] + " for " + women + ", " + men, hostel.placed(0), due[kind][group]);
            }
        }
    }

    private static void freeBedsForAll() {
        Check.sentence("rooms that can be used, take all persons of the group, and have free beds for all of them");
        for (int beds = 1; beds <= 10; beds++) {
            HostelBeds hostel = Check.loaded("room a mixed " + beds + " 0 1;room b women 10 0 2;");
            Check.due("as many as beds", hostel.wouldBe(0, 1, 0, beds, 0), 1);
            Check.due("one more", hostel.wouldBe(0, 1, 0, beds + 1, 0), 3);
            Check.due("one woman more", hostel.wouldBe(0, 1, 1, beds, 0), 2);
        }
        // free for all nights of the stay
        HostelBeds hostel = Check.loaded("room a mixed 3 0 1;book x 4 1 1 0 0 0;");
        Check.due("the night before", hostel.wouldBe(3, 1, 3, 0, 0), 1);
        Check.due("the same night", hostel.wouldBe(4, 1, 3, 0, 0), 3);
        Check.due("the same night, two", hostel.wouldBe(4, 1, 2, 0, 0), 1);
        Check.due("the night behind", hostel.wouldBe(5, 1, 3, 0, 0), 1);
    }

    private static void fewestFreeBeds() {
        Check.sentence("the group gets the one of these with the fewest free beds");
        HostelBeds hostel = Check.loaded("room a men 4 0 1;room b men 3 0 9;room c men 2 0 99;");
        hostel.book(0, 1, 0, 3, 0, 0);
        hostel.book(0, 1, 0, 2, 0, 0);
        hostel.book(0, 1, 0, 1, 0, 0);
        Check.due("beds", beds(hostel, 0) + beds(hostel, 1) + beds(hostel, 2), "1: b0 b1 b21: c0 c11: a0");
        // the beds that are free for the booking count, not the beds of the room
        HostelBeds large = Check.loaded("room a men 6 0 9;room b men 3 0 1;book x 0 2 0 4 0 0;book y 1 1 0 2 0 0;book z 2 1 0 2 0 0;");
        Check.due("beds", beds(large, 0) + beds(large, 1) + beds(large, 2), "1: a0 a1 a2 a31: a4 a51: b0 b1");
        HostelBeds taken = Check.loaded("room a men 4 0 9;room b men 3 0 1;book x 0 2 0 4 0 0;cancel x;book y 0 2 0 2 18 0;book z 0 2 0 2 0 0;"
                + "book w 1 1 0 1 0 0;book v 2 1 0 1 0 0;");
        Check.due("beds", beds(taken, 1) + beds(taken, 2) + beds(taken, 3) + beds(taken, 4), "1: b0 b11: a0 a11: b21: b0");
    }

    private static void lowestPrice() {
        Check.sentence("of several the one with the lowest PRICE");
        HostelBeds hostel = Check.loaded("room a men 2 0 200;room b men 2 0 199;room c men 2 0 1;book x 0 1 0 2 0 0;book y 0 1 0 2 0 0;"
                + "book z 0 1 0 2 0 0;");
        Check.due("beds", beds(hostel, 0) + beds(hostel, 1) + beds(hostel, 2), "1: c0 c11: b0 b11: a0 a1");
        hostel.setPrice(2, 200);
        hostel.setPrice(0, 198);
        Check.due("beds", beds(hostel, 0) + beds(hostel, 1) + beds(hostel, 2), "1: a0 a11: b0 b11: c0 c1");
    }

    private static void lowestNumber() {
        Check.sentence("of several the one with the lowest number");
        HostelBeds hostel = Check.loaded("room z women 2 0 5;room y mixed 2 0 5;room x women 2 0 5;book a 0 1 2 0 0 0;book b 0 1 2 0 0 0;"
                + "book c 0 1 2 0 0 0;");
        Check.due("beds", beds(hostel, 0) + beds(hostel, 1) + beds(hostel, 2), "1: a0 a11: b0 b11: c0 c1");
    }

    private static void mustStayTogether() {
        Check.sentence("Otherwise, if the group must stay together, it is walked: it gets no beds in this hostel.");
        HostelBeds hostel = Check.loaded("room a men 2 0 1;room b men 3 0 1;book x 0 1 0 4 0 0 together;book y 0 1 0 1 0 0;");
        Check.due("beds", beds(hostel, 0) + beds(hostel, 1), "3:1: a0");
        Check.due("walked(0)", hostel.walked(0), 4);
        // in one room it may stay
        Check.due("beds", beds(Check.loaded("room a men 2 0 1;room b men 3 0 1;book x 0 1 0 3 0 0 together;"), 0), "1: b0 b1 b2");
        Check.due("beds", beds(Check.loaded("room a men 2 0 1;room b women 3 0 1;book x 0 1 1 1 0 0 together;"), 0), "3:");
    }

    private static void setsOfRooms() {
        Check.sentence("the women in rooms for women and mixed ones, the men in rooms for men and mixed ones");
        int[][] due = {{3, 1, 3}, {1, 3, 6}, {2, 2, 3}, {4, 1, 7}, {1, 4, 7}, {4, 2, 7}, {2, 4, 7}, {3, 3, 7}, {5, 0, 0}, {0, 5, 0},
            {4, 3, 0}, {3, 4, 0}, {5, 1, 0}, {1, 5, 0}, {3, 0, 3}, {0, 3, 6}, {1, 2, 3}, {2, 1, 3}, {4, 0, 3}, {0, 4, 6}};
        for (int[] group : due) {
            setOfRooms("room a women 2 0 1;room b mixed 2 0 1;room c men 2 0 1;", group[0], group[1], group[2]);
        }
        int[][] small = {{2, 2, 5}, {2, 1, 3}, {1, 2, 5}, {3, 2, 7}, {2, 3, 7}, {3, 3, 0}, {3, 1, 7}, {4, 0, 0}};
        for (int[] group : small) {
            setOfRooms("room a women 2 0 1;room b mixed 1 0 1;room c men 2 0 1;", group[0], group[1], group[2]);
        }
    }

    private static void setOfRooms(String rooms, int women, int men, int due) {
        HostelBeds hostel = Check.loaded(rooms + "over 50;");
        String where = rooms + women + " women, " + men + " men: ";
        Check.due(where + "wouldBe", hostel.wouldBe(0, 1, women, men, 0), due == 0 ? 3 : 2);
        hostel.book(0, 1, women, men, 0, 0);
        Check.due(where + "rooms", hostel.roomsOf(0), due);
        Check.due(where + "placed", hostel.placed(0), due == 0 ? 3 : 2);
    }

    private static void fewestRooms() {
        Check.sentence("The group gets the set with the fewest rooms");
        // three rooms with small numbers would hold, two with great numbers do, too
        HostelBeds two = Check.loaded("room a men 2 0 1;room b men 2 0 1;room c men 2 0 1;room d men 3 0 99;room e men 3 0 99;"
                + "book x 0 1 0 6 0 0;");
        Check.due("two rooms", two.roomsOf(0), 24);
        HostelBeds three = Check.loaded("room a men 2 0 1;room b men 2 0 1;room c men 2 0 1;room d men 1 0 1;room e men 3 0 99;room f men 4 0 99;"
                + "room g men 4 0 99;book x 0 1 0 11 0 0;");
        Check.due("three rooms", three.roomsOf(0), 112);
        StringBuilder all = new StringBuilder();
        for (char name = 'a'; name < 'i'; name++) {
            all.append("room ").append(name).append(" men 1 0 1;");
        }
        HostelBeds eight = Check.loaded(all + "book x 0 1 0 8 0 0;book y 1 1 0 7 0 0;");
        Check.due("eight rooms", eight.roomsOf(0) + " " + eight.placed(0), "255 2");
        Check.due("seven rooms", eight.roomsOf(1), 127);
    }

    private static void smallestNumber() {
        Check.sentence("of several the one whose number as bits (bit i for room i) is smallest");
        // {0, 2} has the number 5, {1, 2} has 6, {0, 3} has 9
        HostelBeds hostel = Check.loaded("room a men 2 0 99;room b men 2 0 1;room c men 3 0 1;room d men 3 0 1;book x 0 1 0 5 0 0;");
        Check.due("5, not 6 or 9", hostel.roomsOf(0), 5);
        // 6 is smaller than 9, though room 0 is not in it
        HostelBeds six = Check.loaded("room a men 1 0 1;room b men 2 0 9;room c men 2 0 9;room d men 3 0 1;book x 0 1 0 4 0 0;");
        Check.due("6, not 9", six.roomsOf(0), 6);
        HostelBeds last = Check.loaded("room a men 3 0 1;room b women 9 0 1;room c women 9 0 1;room d women 9 0 1;room e women 9 0 1;"
                + "room f women 9 0 1;room g men 3 0 1;room h men 3 0 1;book x 0 1 0 4 0 0;book y 0 1 0 3 0 0;book z 0 1 0 2 0 0;");
        Check.due("65, not 129", last.roomsOf(0) + " " + last.roomsOf(1) + " " + last.roomsOf(2), "65 128 64");
        HostelBeds high = Check.loaded("room a men 3 50 1;room b women 9 0 1;room c women 9 0 1;room d women 9 0 1;room e women 9 0 1;"
                + "room f women 9 0 1;room g men 3 0 1;room h men 3 0 1;book x 0 1 0 4 0 0;");
        Check.due("192", high.roomsOf(0), 192);
    }

    private static void noSet() {
        Check.sentence("If there is none, it is walked.");
        HostelBeds hostel = Check.loaded("room a men 2 0 1;room b mixed 2 0 1;room c women 2 0 1;book x 0 1 5 0 0 0;book y 0 1 0 1 0 0;");
        Check.due("beds", beds(hostel, 0) + beds(hostel, 1), "3:1: a0");
        HostelBeds young = Check.loaded("room a men 2 1 1;room b mixed 2 1 1;book x 0 1 0 1 0 0;");
        Check.due("too young", beds(young, 0), "3:");
        HostelBeds full = Check.loaded("room a men 2 0 1;room b mixed 1 0 1;over 50;book x 0 1 0 2 0 0;book y 0 1 0 2 0 0;");
        Check.due("all but one bed taken", beds(full, 1), "3:");
        Check.due("no rooms", new HostelBeds().wouldBe(0, 1, 1, 0, 0), 3);
    }

    private static void womenFirst() {
        Check.sentence("the persons of a group are numbered from 0, the women first");
        HostelBeds hostel = Check.loaded("room a mixed 9 0 1;book x 0 1 2 3 0 0;book y 0 1 0 1 0 0;book z 0 1 1 0 0 0;");
        Check.due("beds", beds(hostel, 0) + beds(hostel, 1) + beds(hostel, 2), "1: a0 a1 a2 a3 a41: a51: a6");
        HostelBeds apart = Check.loaded("room a men 3 0 1;room b women 2 0 1;book x 0 1 2 3 0 0;");
        Check.due("beds", beds(apart, 0), "2: b0 b1 a0 a1 a2");
    }

    private static void lowestBed() {
        Check.sentence("the free bed with the lowest number in the first room .. that has one, in the order of the rooms");
        HostelBeds hostel = Check.loaded("room a men 4 0 1;book x 0 2 0 1 0 0;book y 0 1 0 1 0 0;book z 0 2 0 1 0 0;book w 1 1 0 2 0 0;");
        Check.due("a gap is filled first", beds(hostel, 3), "1: a1 a3");
        HostelBeds rooms = Check.loaded("room a men 2 0 9;room b men 2 0 1;room c men 2 0 5;book x 0 2 0 1 0 0;book y 0 1 0 5 0 0;");
        Check.due("the order of the rooms", beds(rooms, 0) + beds(rooms, 1), "1: b02: a0 a1 b1 c0 c1");
    }

    private static void roomsForWomenFirst() {
        Check.sentence("Each woman in turn gets the free bed .. of those for women that has one; if there is none, in the first mixed"
                + " room that has one.");
        HostelBeds hostel = Check.loaded("room a mixed 1 0 1;room b mixed 1 0 1;room c women 1 0 1;room d men 1 0 1;room e women 1 0 1;"
                + "book x 0 1 4 1 0 0;");
        Check.due("beds", beds(hostel, 0), "2: c0 e0 a0 b0 d0");
    }

    private static void roomsForMenFirst() {
        Check.sentence("Then each man likewise, with the rooms for men and the mixed ones.");
        HostelBeds hostel = Check.loaded("room a mixed 2 0 1;room b mixed 1 0 1;room c men 1 0 1;room d women 1 0 1;room e men 1 0 1;"
                + "book x 0 1 2 4 0 0;");
        Check.due("beds", beds(hostel, 0), "2: d0 a0 c0 e0 a1 b0");
    }

    private static void onlyTheRoomsItGets() {
        Check.sentence("Only the rooms that the group gets are used.");
        // room a is for women, but all are in the mixed room b
        HostelBeds one = Check.loaded("room a women 1 0 1;room b mixed 3 0 1;room c men 1 0 1;book x 0 1 1 2 0 0;book y 0 1 1 0 0 0;");
        Check.due("beds", beds(one, 0) + beds(one, 1), "1: b0 b1 b21: a0");
        HostelBeds two = Check.loaded("room a men 1 0 1;room b women 1 0 1;room c mixed 3 0 1;room d mixed 4 0 1;book x 0 1 3 4 0 0;");
        Check.due("beds", beds(two, 0), "2: c0 c1 c2 d0 d1 d2 d3");
    }

    private static void paysThePrice() {
        Check.sentence("A group that is placed pays the PRICE of each of its beds for each night");
        HostelBeds hostel = Check.loaded("room a men 2 0 200;room b women 2 0 1;book x 0 6 2 2 0 0;book y 6 1 1 0 0 0;book z 7 6 0 1 0 0;");
        Check.due("split", hostel.pays(0), 6 * (200 + 200 + 1 + 1));
        Check.due("least", hostel.pays(1), 1);
        Check.due("one room", hostel.pays(2), 1200);
        HostelBeds most = Check.loaded("room a men 10 0 200;room b men 10 0 200;offer 30 0;book x 0 30 0 12 0 0;");
        Check.due("most", most.pays(0), 72000);
        Check.due("net()", most.net(), 72000);
    }

    private static void offerNights() {
        Check.sentence("if it stays at least the nights of the offer");
        for (int offer = 2; offer <= 30; offer++) {
            HostelBeds hostel = Check.loaded("room a men 3 0 10;offer " + offer + " 50;");
            hostel.book(0, offer, 0, 1, 0, 0);
            hostel.book(0, offer - 1, 0, 1, 0, 0);
            Check.due("offer " + offer, hostel.pays(0), offer * 5);
            Check.due("below offer " + offer, hostel.pays(1), (offer - 1) * 10);
            if (offer < 30) {
                hostel.book(0, offer + 1, 0, 1, 0, 0);
                Check.due("above offer " + offer, hostel.pays(2), (offer + 1) * 5);
            }
        }
        HostelBeds without = Check.loaded("room a men 3 0 10;book x 0 6 0 1 0 0;book y 0 7 0 1 0 0;");
        Check.due("7 nights without a told offer", without.pays(0) + " " + without.pays(1), "60 63");
    }

    private static void roundedDown() {
        Check.sentence("it pays total * (100 - PERCENT) / 100, rounded down");
        for (int percent = 0; percent <= 50; percent++) {
            HostelBeds hostel = Check.loaded("room a men 2 0 1;room b women 2 0 3;offer 2 " + percent + ";book x 0 3 0 1 0 0;book y 0 2 2 1 0 0;"
                    + "book z 2 3 1 0 0 0;");
            Check.due("total 3, " + percent, hostel.pays(0), 3 * (100 - percent) / 100);
            // the whole is rounded, not each bed and not each night
            Check.due("total 14, " + percent, hostel.pays(1), 14 * (100 - percent) / 100);
            Check.due("total 9, " + percent, hostel.pays(2), 9 * (100 - percent) / 100);
        }
        Check.due("1 percent off 1", Check.loaded("room a men 1 0 1;offer 2 50;book x 0 2 0 1 0 0;").pays(0), 1);
        Check.due("0 percent off", Check.loaded("room a men 1 0 1;offer 2 0;book x 0 2 0 1 0 0;").pays(0), 2);
    }

    private static void walkCosts() {
        Check.sentence("A walk costs COST for each person and each night of the booking.");
        HostelBeds hostel = Check.loaded("room a men 10 0 1;room b men 10 0 1;book x 0 30 12 0 0 0;book y 29 1 5 3 0 0 together;");
        Check.due("60", hostel.walkCost(), 60 * (12 * 30 + 8));
        hostel.setWalk(300);
        Check.due("300", hostel.walkCost(), 300 * (12 * 30 + 8));
        hostel.setWalk(1);
        Check.due("1", hostel.walkCost(), 368);
        hostel.setWalk(0);
        Check.due("0", hostel.walkCost(), 0);
        // the offer takes nothing off
        Check.due("with an offer", Check.loaded("room a men 10 0 1;offer 2 50;book x 0 30 1 0 0 0;").walkCost(), 1800);
    }

    private static void net() {
        Check.sentence("The net is what all placed groups pay, minus what all walks cost.");
        HostelBeds hostel = Check.loaded("room a men 10 0 7;walk 7;book x 0 2 0 3 0 0;book y 0 2 3 0 0 0;book z 3 1 0 1 0 0;");
        Check.due("net()", hostel.net(), 7);
        hostel.setAbsent(2, true);
        Check.due("0", hostel.net(), 0);
        hostel.setWalk(8);
        Check.due("below 0", hostel.net(), -6);
        HostelBeds most = Check.loaded("room a men 10 99 7;walk 300;book x 0 30 5 5 0 0;");
        Check.due("far below 0", most.net(), -90000);
    }

    private static void chancesAtFirst() {
        Check.sentence("at first p(0) is 1.0 and all others are 0.0");
        HostelBeds hostel = Check.loaded("room a men 2 0 7;book x 1 1 0 1 0 50;");
        for (int guests = -1; guests <= 3; guests++) {
            Check.due("chance(0, " + guests + ")", hostel.chance(0, guests), guests == 0 ? 1.0 : 0.0);
            Check.due("chance(2, " + guests + ")", hostel.chance(2, guests), guests == 0 ? 1.0 : 0.0);
        }
    }

    private static void comesOrNot() {
        Check.sentence("each accepted booking that stays in it comes as a whole with its CHANCE, or not");
        HostelBeds hostel = Check.loaded("room a men 9 0 7;book x 0 1 1 2 0 0;book y 1 1 1 2 0 100;book z 2 1 1 2 0 25;");
        for (int guests = 0; guests <= 4; guests++) {
            Check.due("CHANCE 0, " + guests, hostel.chance(0, guests), guests == 0 ? 1.0 : 0.0);
            Check.due("CHANCE 100, " + guests, hostel.chance(1, guests), guests == 3 ? 1.0 : 0.0);
            Check.due("CHANCE 25, " + guests, hostel.chance(2, guests), guests == 0 ? 0.75 : guests == 3 ? 0.25 : 0.0);
        }
        for (int chance = 0; chance <= 100; chance++) {
            HostelBeds one = Check.loaded("room a men 9 0 7;book x 0 1 1 0 0 " + chance + ";");
            Check.due("CHANCE " + chance, one.chance(0, 1), chance / 100.0);
            Check.due("not CHANCE " + chance, one.chance(0, 0), 1.0 - chance / 100.0);
        }
    }

    private static void negativeNumber() {
        Check.sentence("p of a negative number is 0.0");
        HostelBeds hostel = Check.loaded("room a men 10 0 7;room b men 10 0 7;book x 0 1 12 0 0 50;book y 0 1 1 0 0 50;book z 0 1 3 0 0 100;");
        double[] due = new double[18];
        due[3] = 0.25;
        due[4] = 0.25;
        due[15] = 0.25;
        due[16] = 0.25;
        for (int guests = 0; guests < 18; guests++) {
            Check.due("chance(0, " + guests + ")", hostel.chance(0, guests), due[guests]);
        }
    }

    private static void inTheOrderOfNumbers() {
        Check.sentence("For each of these bookings, in the order of their numbers, with c = CHANCE / 100.0 and its persons n, each p(k)"
                + " becomes p(k) * (1.0 - c) + p(k - n) * c by the values before");
        int[] chances = {56, 98, 22, 75, 74, 64, 82, 83};
        int[] persons = {1, 2, 1, 3, 1, 1, 4, 2};
        StringBuilder text = new StringBuilder("room a men 10 0 7;room b men 10 0 7;over 50;");
        // the one with the higher number comes earlier
        for (int i = 0; i < 8; i++) {
            text.append("book ").append((char) ('a' + i)).append(' ').append(7 - i).append(" 9 ").append(persons[i]).append(" 0 0 ")
                    .append(chances[i]).append(';');
        }
        HostelBeds hostel = Check.loaded(text.toString());
        double[] up = new double[20];
        double[] down = new double[20];
        up[0] = 1.0;
        down[0] = 1.0;
        for (int i = 0; i < 8; i++) {
            up = comes(up, persons[i], chances[i] / 100.0);
            down = comes(down, persons[7 - i], chances[7 - i] / 100.0);
        }
        Check.due("the order tells", java.util.Arrays.equals(up, down), false);
        for (int guests = 0; guests < 20; guests++) {
            Check.due("chance(7, " + guests + ")", hostel.chance(7, guests), up[guests]);
        }
    }

    private static double[] comes(double[] before, int persons, double chance) {
        double[] p = new double[before.length];
        for (int k = 0; k < p.length; k++) {
            p[k] = before[k] * (1.0 - chance) + (k >= persons ? before[k - persons] : 0.0) * chance;
        }
        return p;
    }

    private static void whoCounts() {
        Check.sentence("each accepted booking that stays in it (absent ones, too, count by their CHANCE)");
        HostelBeds hostel = Check.loaded("room a men 4 0 7;book x 3 2 1 0 0 100;book y 4 2 2 0 0 100;book z 4 1 2 0 0 100;book w 4 1 1 0 0 100;"
                + "absent x;book v 4 1 0 1 0 100;cancel w;");
        Check.due("states", hostel.state(2) + " " + hostel.state(3) + " " + hostel.state(4), "0 2 1");
        int[] due = {0, 0, 0, 1, 4, 2, 0};
        for (int night = 0; night < 7; night++) {
            for (int guests = 0; guests < 8; guests++) {
                Check.due("chance(" + night + ", " + guests + ")", hostel.chance(night, guests), guests == due[night] ? 1.0 : 0.0);
            }
        }
    }

    /** Tells what became of a booking, and the beds of its persons. */
    private static String beds(HostelBeds hostel, int booking) {
        int placed = hostel.placed(booking);
        StringBuilder beds = new StringBuilder().append(placed).append(':');
        int persons = hostel.booking(booking, 2) + hostel.booking(booking, 3);
        for (int person = 0; person < persons && (placed == 1 || placed == 2); person++) {
            beds.append(' ').append((char) ('a' + hostel.roomOf(booking, person))).append(hostel.bedOf(booking, person));
        }
        return beds.toString();
    }
}
