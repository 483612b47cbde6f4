/** The sentences of promises 32 to 35 that name an edge, a method each. */
public final class WouldBeEdgesTest {
    private static final Class<IllegalArgumentException> ARGUMENT = IllegalArgumentException.class;
    private static final int[] FAR = {-1, -2, 100, 256, 65536, Integer.MAX_VALUE, Integer.MIN_VALUE, Integer.MIN_VALUE + 1};

    // x is split, y walked, z and w wait (w is absent), v is in one room, u is cancelled
    private static final String TEXT = "room hall women 2 18 9;room b mixed 3 0 5;room c men 1 0 7;over 30;walk 44;offer 3 20;"
            + "book x 0 3 3 1 20 50;book y 1 2 1 1 0 70 together;book z 1 2 2 0 0 30;book w 1 1 0 2 0 20;absent w;"
            + "book v 2 2 1 0 30 90;book u 4 1 1 0 0 0;cancel u;";

    public static void main(String[] args) {
        nothingChanges();
        acceptedInAnyCase();
        highestNumber();
        notAbsentNotTogether();
        fromOutOfRange();
        nightsOutOfRange();
        womenAndMenOutOfRange();
        ageOutOfRange();
        oneToThree();
        lengthOfStay();
        smallestLength();
        bestStayOutOfRange();
        oneMoreThanSixteen();
        ifItWasCancelled();
        nobodyInstead();
        otherBookings();
        zeroToFifty();
        smallestPercent();
        allThatAreNotCancelled();
        inTheOrderOfTheirNumbers();
        fromTheBeginning();
        asTheyAreNow();
        staysWaiting();
        Check.finish();
    }

    private static void nothingChanges() {
        Check.sentence("what would be; nothing changes");
        String before = Look.atHostel(Check.loaded(TEXT));
        HostelBeds hostel = Check.loaded(TEXT);
        hostel.wouldBe(0, 30, 1, 1, 99);
        hostel.bestStay(0, 1, 1, 99);
        for (int booking = 0; booking < 6; booking++) {
            hostel.netWithout(booking);
        }
        hostel.bestOver();
        Check.due("all", Look.atHostel(hostel), before);
        Check.fails("undo()", IllegalStateException.class, hostel::undo);
        // nor what is told next
        HostelBeds asked = Check.loaded(TEXT);
        asked.wouldBe(0, 30, 6, 6, 0);
        asked.bestOver();
        HostelBeds other = Check.loaded(TEXT);
        Check.due("book()", asked.book(5, 1, 1, 0, 0, 0), other.book(5, 1, 1, 0, 0, 0));
        Check.due("all behind book()", Look.atHostel(asked), Look.atHostel(other));
    }

    private static void acceptedInAnyCase() {
        Check.sentence("if it was accepted in any case");
        HostelBeds hostel = Check.loaded("room a men 2 0 1;book x 0 3 0 2 0 0;absent x;");
        // x is absent but booked: book() would put it at the list
        Check.due("wouldBe", hostel.wouldBe(0, 3, 0, 2, 0), 1);
        Check.due("book", hostel.state(hostel.book(0, 3, 0, 2, 0, 0)), 0);
        Check.due("no rooms", new HostelBeds().wouldBe(0, 1, 0, 12, 0), 3);
        // and it can throw out one that comes later
        HostelBeds later = Check.loaded("room a men 2 0 10;walk 0;book x 1 1 0 2 0 0;");
        Check.due("wouldBe", later.wouldBe(0, 2, 0, 1, 0), 1);
        Check.due("bestStay", later.bestStay(0, 0, 1, 0), 30);
    }

    private static void highestNumber() {
        Check.sentence("it has the highest number");
        HostelBeds hostel = Check.loaded("room a men 2 0 1;book x 5 3 0 2 0 0;");
        Check.due("the same FROM", hostel.wouldBe(5, 1, 0, 1, 0), 3);
        Check.due("an earlier FROM", hostel.wouldBe(4, 2, 0, 1, 0), 1);
        Check.due("a later FROM", hostel.wouldBe(6, 1, 0, 1, 0), 3);
        Check.due("behind it", hostel.wouldBe(8, 1, 0, 1, 0), 1);
    }

    private static void notAbsentNotTogether() {
        Check.sentence("is not absent, and need not stay together");
        HostelBeds hostel = Check.loaded("room a men 1 0 1;room b men 1 0 1;book x 0 1 0 2 0 0 together;absent x;");
        Check.due("wouldBe", hostel.wouldBe(0, 1, 0, 2, 0), 2);
        Check.due("wouldBe", hostel.wouldBe(0, 1, 0, 1, 0), 1);
        // also where an undone booking was absent and together
        hostel.book(0, 1, 0, 1, 0, 0);
        hostel.setAbsent(1, true);
        hostel.setTogether(1, true);
        hostel.undo();
        hostel.undo();
        hostel.undo();
        Check.due("wouldBe", hostel.wouldBe(0, 1, 0, 2, 0), 2);
    }

    private static HostelBeds large() {
        return Check.loaded("room a mixed 10 0 1;room b mixed 10 0 1;");
    }

    private static void fromOutOfRange() {
        Check.sentence("from: 0 to 29");
        HostelBeds hostel = large();
        Check.due("wouldBe(0)", hostel.wouldBe(0, 1, 1, 0, 0), 1);
        Check.due("wouldBe(29)", hostel.wouldBe(29, 1, 1, 0, 0), 1);
        Check.fails("wouldBe(30)", ARGUMENT, () -> hostel.wouldBe(30, 1, 1, 0, 0));
        Check.fails("wouldBe(30) of 0 nights", ARGUMENT, () -> hostel.wouldBe(30, 0, 1, 0, 0));
        for (int wrong : FAR) {
            Check.fails("wouldBe(" + wrong + ")", ARGUMENT, () -> hostel.wouldBe(wrong, 1, 1, 0, 0));
        }
        // from + nights is a small number again
        Check.fails("wouldBe", ARGUMENT, () -> hostel.wouldBe(Integer.MAX_VALUE, Integer.MAX_VALUE, 1, 0, 0));
        Check.fails("wouldBe", ARGUMENT, () -> hostel.wouldBe(-5, 10, 1, 0, 0));
    }

    private static void nightsOutOfRange() {
        Check.sentence("nights: 1 to 30 - from");
        HostelBeds hostel = large();
        for (int night = 0; night < 30; night++) {
            int from = night;
            Check.due("wouldBe(" + from + ", 1)", hostel.wouldBe(from, 1, 1, 0, 0), 1);
            Check.due("wouldBe(" + from + ", all)", hostel.wouldBe(from, 30 - from, 1, 0, 0), 1);
            Check.fails("wouldBe(" + from + ", one more)", ARGUMENT, () -> hostel.wouldBe(from, 31 - from, 1, 0, 0));
            Check.fails("wouldBe(" + from + ", 0)", ARGUMENT, () -> hostel.wouldBe(from, 0, 1, 0, 0));
            Check.fails("wouldBe(" + from + ", most)", ARGUMENT, () -> hostel.wouldBe(from, Integer.MAX_VALUE, 1, 0, 0));
        }
        for (int wrong : FAR) {
            Check.fails("wouldBe(0, " + wrong + ")", ARGUMENT, () -> hostel.wouldBe(0, wrong, 1, 0, 0));
            Check.fails("wouldBe(29, " + wrong + ")", ARGUMENT, () -> hostel.wouldBe(29, wrong, 1, 0, 0));
        }
    }

    private static void womenAndMenOutOfRange() {
        Check.sentence("women: 0 to 12; men: 0 to 12, together with women 1 to 12");
        for (int w = -1; w <= 13; w++) {
            HostelBeds hostel = large();
            for (int m = -1; m <= 13; m++) {
                int women = w;
                int men = m;
                String call = "(" + women + ", " + men + ")";
                if (women >= 0 && men >= 0 && women + men >= 1 && women + men <= 12) {
                    Check.due("wouldBe" + call, hostel.wouldBe(0, 1, women, men, 0), women + men <= 10 ? 1 : 2);
                    Check.due("bestStay" + call, hostel.bestStay(0, women, men, 0), 30);
                } else {
                    Check.fails("wouldBe" + call, ARGUMENT, () -> hostel.wouldBe(0, 1, women, men, 0));
                    Check.fails("bestStay" + call, ARGUMENT, () -> hostel.bestStay(0, women, men, 0));
                }
            }
        }
        HostelBeds hostel = large();
        for (int wrong : FAR) {
            Check.fails("wouldBe", ARGUMENT, () -> hostel.wouldBe(0, 1, wrong, 0, 0));
            Check.fails("wouldBe", ARGUMENT, () -> hostel.wouldBe(0, 1, 0, wrong, 0));
            // together they would be 5
            Check.fails("wouldBe", ARGUMENT, () -> hostel.wouldBe(0, 1, wrong, 5 - wrong, 0));
            Check.fails("wouldBe", ARGUMENT, () -> hostel.wouldBe(0, 1, 5 - wrong, wrong, 0));
            Check.fails("bestStay", ARGUMENT, () -> hostel.bestStay(0, wrong, 5 - wrong, 0));
        }
    }

    private static void ageOutOfRange() {
        Check.sentence("age: 0 to 99");
        HostelBeds hostel = large();
        Check.due("wouldBe of 0", hostel.wouldBe(0, 1, 1, 0, 0), 1);
        Check.due("wouldBe of 99", hostel.wouldBe(0, 1, 1, 0, 99), 1);
        for (int wrong : FAR) {
            Check.fails("wouldBe of " + wrong, ARGUMENT, () -> hostel.wouldBe(0, 1, 1, 0, wrong));
            Check.fails("bestStay of " + wrong, ARGUMENT, () -> hostel.bestStay(0, 1, 0, wrong));
        }
        Check.due("too young", Check.loaded("room a men 1 99 1;").wouldBe(0, 1, 0, 1, 98), 3);
        Check.due("old enough", Check.loaded("room a men 1 99 1;").wouldBe(0, 1, 0, 1, 99), 1);
    }

    private static void oneToThree() {
        Check.sentence("Returns 1 to 3, as for placed().");
        HostelBeds hostel = Check.loaded("room a men 2 0 1;room b mixed 2 0 1;");
        int[][] groups = {{0, 2, 1}, {1, 1, 1}, {2, 0, 1}, {0, 3, 2}, {1, 2, 2}, {2, 2, 2}, {0, 4, 2}, {3, 0, 3}, {0, 5, 3}, {3, 1, 3}};
        for (int[] group : groups) {
            Check.due("wouldBe of " + group[0] + ", " + group[1], hostel.wouldBe(3, 5, group[0], group[1], 0), group[2]);
            HostelBeds told = Check.loaded("over 50;room a men 2 0 1;room b mixed 2 0 1;");
            Check.due("placed", told.placed(told.book(3, 5, group[0], group[1], 0, 0)), group[2]);
        }
    }

    private static void lengthOfStay() {
        Check.sentence("Finds the length of stay with which net() would be greatest - NIGHTS, 1 to 30 - from");
        for (int from = 0; from < 30; from++) {
            HostelBeds hostel = Check.loaded("room a men 1 0 10;walk 300;offer 30 50;");
            Check.due("bestStay(" + from + ")", hostel.bestStay(from, 0, 1, 0), from == 0 ? 29 : 30 - from);
            Check.due("bestStay(" + from + ") walked", hostel.bestStay(from, 1, 0, 0), 1);
            if (from < 29) {
                hostel.book(29, 1, 0, 1, 0, 0);
                Check.due("bestStay(" + from + ") before 29", hostel.bestStay(from, 0, 1, 0), 29 - from);
            }
        }
        // with the walk of another one
        HostelBeds two = Check.loaded("room a men 1 0 10;walk 10;offer 30 0;book x 4 2 0 1 0 0;");
        Check.due("x pays 20, or costs 20", two.bestStay(0, 0, 1, 0), 30);
        two.setWalk(300);
        Check.due("x pays 20, or costs 600", two.bestStay(0, 0, 1, 0), 4);
    }

    private static void smallestLength() {
        Check.sentence("the smallest of several");
        HostelBeds free = Check.loaded("room a women 1 0 10;walk 0;");
        for (int from = 0; from < 30; from++) {
            Check.due("bestStay(" + from + ") of a free walk", free.bestStay(from, 0, 1, 0), 1);
        }
        Check.due("without rooms and walks", Check.loaded("walk 0;").bestStay(0, 1, 0, 0), 1);
        // 5 nights earn as much as 10 with the offer
        Check.due("5 and 10 nights", Check.loaded("room a men 1 0 1;offer 6 50;").bestStay(20, 0, 1, 0), 5);
        Check.due("5 and 11 nights, rounded down", Check.loaded("room a men 1 0 1;offer 6 50;").bestStay(19, 0, 1, 0), 5);
        Check.due("5 and 12 nights", Check.loaded("room a men 1 0 1;offer 6 50;").bestStay(18, 0, 1, 0), 12);
    }

    private static void bestStayOutOfRange() {
        Check.sentence("bestStay: Throws IllegalArgumentException if a parameter is out of range");
        HostelBeds hostel = large();
        Check.due("bestStay(0)", hostel.bestStay(0, 1, 0, 0), 30);
        Check.due("bestStay(29)", hostel.bestStay(29, 1, 0, 99), 1);
        Check.fails("bestStay(30)", ARGUMENT, () -> hostel.bestStay(30, 1, 0, 0));
        Check.fails("bestStay of nobody", ARGUMENT, () -> hostel.bestStay(0, 0, 0, 0));
        for (int wrong : FAR) {
            Check.fails("bestStay", ARGUMENT, () -> hostel.bestStay(wrong, 1, 0, 0));
            Check.fails("bestStay", ARGUMENT, () -> hostel.bestStay(0, wrong, 0, 0));
            Check.fails("bestStay", ARGUMENT, () -> hostel.bestStay(0, 0, wrong, 0));
        }
    }

    private static void oneMoreThanSixteen() {
        Check.sentence("what would become of one more booking - there may be 16");
        HostelBeds hostel = Check.loaded("room a men 10 0 1;room b men 10 0 1;");
        for (int booking = 0; booking < 16; booking++) {
            hostel.book(3, 1, 0, 1, 0, 0);
        }
        Check.due("wouldBe", hostel.wouldBe(3, 1, 0, 4, 0) + " " + hostel.wouldBe(3, 1, 0, 5, 0) + " " + hostel.wouldBe(2, 1, 0, 12, 0), "1 3 2");
        Check.due("bestStay", hostel.bestStay(3, 0, 4, 0) + " " + hostel.bestStay(3, 0, 5, 0), "27 1");
        Check.due("count(2)", hostel.count(2), 16);
        Check.due("netWithout(15)", hostel.netWithout(15), 15);
        Check.fails("netWithout(16)", IndexOutOfBoundsException.class, () -> hostel.netWithout(16));
    }

    private static void ifItWasCancelled() {
        Check.sentence("Returns net() as it would be if an accepted booking was cancelled");
        HostelBeds hostel = Check.loaded("room a men 2 0 10;over 50;walk 7;book x 0 2 0 2 0 0;book y 1 2 0 1 0 0;book z 4 1 0 2 0 0;");
        // without x, y gets a bed
        int[] due = {20 + 20, 40 + 20, 40 - 14};
        Check.due("net()", hostel.net(), 46);
        for (int booking = 0; booking < 3; booking++) {
            Check.due("netWithout(" + booking + ")", hostel.netWithout(booking), due[booking]);
            hostel.cancel(booking);
            Check.due("net() without " + booking, hostel.net(), due[booking]);
            hostel.undo();
        }
        // the only one, and one that is absent
        Check.due("without the only one", Check.loaded("room a men 2 0 10;book x 0 2 0 2 0 0;").netWithout(0), 0);
        hostel.setAbsent(2, true);
        Check.due("without an absent one", hostel.netWithout(2) + " " + hostel.net(), "26 26");
    }

    private static void nobodyInstead() {
        Check.sentence("and nobody of the waiting list was accepted instead");
        HostelBeds hostel = Check.loaded("room a men 2 0 10;book x 0 2 0 2 0 0;book y 0 1 0 1 0 0;book z 1 1 0 1 0 0;");
        Check.due("netWithout(0)", hostel.netWithout(0), 0);
        Check.due("count(3)", hostel.count(3), 2);
        hostel.cancel(0);
        Check.due("net()", hostel.net(), 20);
    }

    private static void otherBookings() {
        Check.sentence("net() as it is for other bookings");
        HostelBeds hostel = Check.loaded("room a men 2 0 10;book x 0 2 0 2 0 0;book y 0 1 0 1 0 0;book z 3 1 0 1 0 0;cancel z;book w 5 1 0 1 0 0;");
        Check.due("net()", hostel.net(), 50);
        Check.due("one that waits", hostel.netWithout(1), 50);
        Check.due("one that is cancelled", hostel.netWithout(2), 50);
        Check.due("one that is accepted", hostel.netWithout(3), 40);
        HostelBeds walk = Check.loaded("room a men 2 0 10;walk 7;book x 0 1 2 0 0 0;book y 0 1 0 1 0 0;book z 1 1 0 1 0 0;cancel z;");
        Check.due("net() with a walk", walk.net() + " " + walk.netWithout(1) + " " + walk.netWithout(2), "-14 -14 -14");
        Check.due("net() without the walk", walk.netWithout(0), 0);
        // its nights are free for one that waits, but nobody is accepted instead
        HostelBeds list = Check.loaded("book v 0 1 0 1 0 0;book u 0 1 0 1 0 0;room a men 2 0 10;book x 0 2 0 1 0 0;");
        Check.due("one that waits, as it is", list.netWithout(0) + " " + list.net(), "20 20");
    }

    private static void zeroToFifty() {
        Check.sentence("Returns the percent of overbooking, 0 to 50, with which net() would be greatest");
        // x is absent: the more may be overbooked, the more comes instead; y needs so many percent more
        for (int more = 1; more <= 5; more++) {
            HostelBeds hostel = Check.loaded("room a men 10 0 1;book x 0 1 0 10 0 0;absent x;book y 0 1 0 " + more + " 0 0;");
            Check.due("bestOver() for " + more, hostel.bestOver(), more * 10);
        }
        Check.due("out of reach", Check.loaded("room a men 10 0 1;book x 0 1 0 10 0 0;absent x;book y 0 1 0 6 0 0;").bestOver(), 0);
        StringBuilder text = new StringBuilder();
        for (char name = 'a'; name < 'i'; name++) {
            text.append("room ").append(name).append(" men 10 0 1;");
        }
        for (char name = 'a'; name < 'h'; name++) {
            text.append("book ").append(name).append(" 0 1 0 11 0 0;absent ").append(name).append(';');
        }
        // 77 absent ones of 80; each man more needs 1 or 2 percent
        for (int more = 4; more <= 12; more++) {
            HostelBeds hostel = Check.loaded(text + "book z 0 1 0 " + more + " 0 0;");
            Check.due("bestOver() for " + more, hostel.bestOver(), ((77 + more) * 100 + 79) / 80 - 100);
        }
    }

    private static void smallestPercent() {
        Check.sentence("the smallest of several");
        Check.due("without anything", new HostelBeds().bestOver(), 0);
        HostelBeds hostel = Check.loaded("room a men 10 0 1;book x 0 1 0 10 0 0;over 50;");
        Check.due("any percent", hostel.bestOver(), 0);
        HostelBeds walks = Check.loaded("room a men 10 0 1;walk 0;book x 0 1 0 10 0 0;book y 0 1 0 2 0 0;");
        Check.due("free walks", walks.bestOver(), 0);
        walks.setWalk(1);
        Check.due("dear walks", walks.bestOver(), 0);
        HostelBeds three = Check.loaded("room a men 3 0 1;book x 0 1 0 3 0 0;absent x;book y 0 1 0 1 0 0;");
        Check.due("34 percent of 3 beds", three.bestOver(), 34);
        // 10 percent bring y and 20 percent w, which is walked for nothing
        HostelBeds two = Check.loaded("room a men 10 0 1;walk 0;book x 0 1 0 10 0 0;absent x;book y 0 1 0 1 0 0;book w 0 1 1 0 0 0;");
        Check.due("10 percent, not 20", two.bestOver(), 10);
    }

    private static void allThatAreNotCancelled() {
        Check.sentence("if all bookings that are not cancelled were told anew");
        HostelBeds hostel = Check.loaded("room a men 10 0 1;book x 0 1 0 10 0 0;absent x;book y 0 1 0 1 0 0;book z 0 1 0 2 0 0;");
        Check.due("with all", hostel.bestOver(), 30);
        hostel.cancel(1);
        Check.due("without y", hostel.bestOver(), 20);
        hostel.cancel(2);
        Check.due("without y and z", hostel.bestOver(), 0);
        hostel.undo();
        hostel.undo();
        hostel.cancel(0);
        Check.due("without x", hostel.bestOver(), 0);
        // those that wait now are told anew, too
        HostelBeds waits = Check.loaded("book y 0 1 0 1 0 0;room a men 10 0 1;book x 0 1 0 10 0 0;absent x;book w 1 1 0 10 0 0;");
        Check.due("y is first", waits.bestOver(), 0);
    }

    private static void inTheOrderOfTheirNumbers() {
        Check.sentence("in the order of their numbers");
        // x waits and y is accepted now; told anew x comes before y
        HostelBeds hostel = Check.loaded("room a men 4 0 10;walk 9;book w 0 1 0 2 0 0;book x 0 2 0 3 0 0;book y 0 1 0 2 0 0;cancel w;");
        Check.due("states", hostel.state(1) + " " + hostel.state(2), "0 1");
        // 0 percent: x alone pays 60; 25 percent: x and y, which is walked for 18
        Check.due("bestOver()", hostel.bestOver(), 0);
        hostel.setAbsent(2, true);
        Check.due("bestOver() with y absent", hostel.bestOver(), 0);
        HostelBeds last = Check.loaded("room a men 4 0 10;walk 9;book w 0 1 0 2 0 0;book x 0 2 0 3 0 0;book y 0 1 0 2 0 0;cancel w;absent x;");
        Check.due("bestOver() with x absent", last.bestOver(), 25);
    }

    private static void fromTheBeginning() {
        Check.sentence("with it from the beginning");
        // the text told "over" only behind x
        HostelBeds hostel = Check.loaded("room a men 2 0 10;walk 9;book x 0 1 0 3 0 0;over 50;book y 0 1 0 2 0 0;");
        Check.due("states", hostel.state(0) + " " + hostel.state(1), "0 1");
        // below 50 percent x waits and y pays 20; by 50 percent x is walked for 27 and y waits
        Check.due("bestOver()", hostel.bestOver(), 0);
        HostelBeds split = Check.loaded("room a men 2 0 10;room b mixed 1 0 9;walk 9;book w 0 1 0 2 0 0;absent w;book x 0 1 0 2 0 0;over 33;"
                + "book y 0 1 0 1 0 0;");
        Check.due("states", split.state(1) + " " + split.state(2), "0 1");
        // from 34 percent on x pays 20, and y waits
        Check.due("bestOver()", split.bestOver(), 34);
    }

    private static void asTheyAreNow() {
        Check.sentence("with the rooms, and with who is absent or must stay together, as they are now");
        // x was told before the room and waits now; told anew it is accepted, and y needs 50 percent
        HostelBeds rooms = Check.loaded("book x 0 1 0 2 0 0;absent x;room a men 2 0 10;book y 0 1 0 1 0 0;");
        Check.due("states", rooms.state(0) + " " + rooms.state(1), "0 1");
        Check.due("with the room told later", rooms.bestOver(), 50);
        // 25 percent bring a woman who is walked, 50 percent a man who pays, too
        HostelBeds price = Check.loaded("room a men 4 0 20;walk 20;book x 0 1 0 2 0 0;absent x;book w 0 1 0 2 0 0;book y 0 1 1 0 0 0;"
                + "book v 0 1 0 1 0 0;");
        Check.due("PRICE 20", price.bestOver(), 0);
        price.setPrice(0, 21);
        Check.due("PRICE 21", price.bestOver(), 50);
        price.setWalk(21);
        Check.due("COST 21", price.bestOver(), 0);
        HostelBeds absent = Check.loaded("room a men 2 0 10;walk 9;book x 0 1 0 2 0 0;book y 0 1 0 1 0 0;");
        Check.due("both there", absent.bestOver(), 0);
        absent.setAbsent(0, true);
        Check.due("x absent", absent.bestOver(), 50);
        absent.setAbsent(1, true);
        Check.due("both absent", absent.bestOver(), 0);
        HostelBeds apart = Check.loaded("room a men 1 0 10;room b men 1 0 10;book x 0 1 0 2 0 0;absent x;book y 0 1 0 1 0 0;");
        Check.due("y alone", apart.bestOver(), 50);
        HostelBeds group = Check.loaded("room a men 2 0 10;room b men 2 0 10;book x 0 1 0 3 0 0;absent x;book y 0 1 0 3 0 0;");
        Check.due("y split", group.bestOver(), 50);
        group.setTogether(1, true);
        Check.due("y walked", group.bestOver(), 0);
    }

    private static void staysWaiting() {
        Check.sentence("who waits then stays waiting");
        // below 50 percent x waits; it must not be accepted behind the others, where the percent would do
        HostelBeds hostel = Check.loaded("room a men 2 0 10;room b women 2 0 1;walk 300;book x 0 1 0 5 0 0;book y 0 1 2 0 0 0;book w 0 1 2 0 0 0;"
                + "cancel w;");
        Check.due("states", hostel.state(0) + " " + hostel.state(1), "0 1");
        Check.due("bestOver()", hostel.bestOver(), 0);
        // told in turn x waits for good, though nobody is behind it in night 1
        HostelBeds list = Check.loaded("room a men 2 0 10;book w 0 1 0 2 0 0;absent w;book x 0 1 0 2 0 0;book y 0 1 0 1 0 0;");
        Check.due("y by 50 percent, x never", list.bestOver(), 50);
        Check.due("states", list.state(0) + " " + list.state(1) + " " + list.state(2), "1 0 0");
        list.cancel(0);
        Check.due("x by 0 percent", list.bestOver(), 0);
        // 0 percent: x pays 80; from 20 percent on y pays 60, and x waits though it did not before
        HostelBeds refused = Check.loaded("room a men 10 0 10;walk 0;book w 1 1 0 6 0 0;absent w;book y 1 1 0 6 0 0;book x 1 2 0 4 0 0;"
                + "book d 1 1 12 0 0 0;book e 1 1 12 0 0 0;book f 1 1 12 0 0 0;");
        Check.due("x, not y", refused.bestOver(), 0);
    }
}
