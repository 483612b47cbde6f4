/** Promises 32 to 35: wouldBe, bestStay, netWithout, bestOver. */
public final class WhatIfTest {
    private static final Class<IllegalArgumentException> ARGUMENT = IllegalArgumentException.class;
    private static final Class<IndexOutOfBoundsException> INDEX = IndexOutOfBoundsException.class;

    public static void main(String[] args) {
        wouldBe();
        behindSixteen();
        bestStay();
        netWithout();
        bestOver();
        bestOverAsTheyAreNow();
        wrongParameters();
        nothingChanges();
        Check.finish();
    }

    private static void wouldBe() {
        HostelBeds hostel = Check.loaded("room a women 2 0 5;room b mixed 3 18 5;book x 3 4 2 1 30 0;book y 5 2 2 0 30 0;");
        Check.due("wouldBe alone", hostel.wouldBe(0, 3, 2, 0, 0), 1);
        Check.due("wouldBe too young", hostel.wouldBe(0, 1, 1, 1, 17), 3);
        Check.due("wouldBe old enough", hostel.wouldBe(0, 1, 1, 1, 18), 1);
        Check.due("wouldBe split", hostel.wouldBe(0, 3, 3, 2, 18), 2);
        // behind x, which has the lower number, but before y, which comes later
        Check.due("wouldBe with the same FROM", hostel.wouldBe(3, 1, 3, 0, 18), 3);
        Check.due("wouldBe before y", hostel.wouldBe(4, 2, 2, 0, 18), 1);
        Check.due("wouldBe behind y", hostel.wouldBe(5, 1, 2, 0, 18), 3);
        Check.due("wouldBe overbooked", hostel.wouldBe(3, 1, 6, 6, 99), 3);
        Check.due("wouldBe at the end", hostel.wouldBe(29, 1, 0, 3, 18), 1);
        Check.due("wouldBe all nights", hostel.wouldBe(0, 30, 0, 2, 18), 1);
        Check.due("wouldBe without rooms", new HostelBeds().wouldBe(0, 1, 1, 0, 0), 3);
    }

    private static void behindSixteen() {
        StringBuilder text = new StringBuilder("room a mixed 10 0 5;room b mixed 10 0 5;walk 0;");
        for (char name = 'a'; name < 'q'; name++) {
            text.append("book ").append(name).append(" 1 1 1 0 0 0;");
        }
        HostelBeds hostel = Check.loaded(text.toString());
        Check.due("wouldBe behind 16", hostel.wouldBe(1, 1, 4, 0, 0), 1);
        Check.due("wouldBe behind 16", hostel.wouldBe(1, 1, 5, 0, 0), 3);
        Check.due("wouldBe before 16", hostel.wouldBe(0, 1, 12, 0, 0), 2);
        Check.due("bestStay behind 16", hostel.bestStay(1, 4, 0, 0), 29);
        Check.due("bestStay behind 16", hostel.bestStay(1, 12, 0, 0), 1);
        Check.due("count(2)", hostel.count(2), 16);
    }

    private static void bestStay() {
        String room = "room a mixed 1 0 10;book x 3 1 1 0 20 0;";
        // 30 nights earn 270 and cost one walk, 3 nights earn 30 + 10
        Check.due("bestStay with cheap walks", Check.loaded(room + "walk 229;").bestStay(0, 1, 0, 0), 30);
        Check.due("bestStay, the smallest of two", Check.loaded(room + "walk 230;").bestStay(0, 1, 0, 0), 3);
        Check.due("bestStay with dear walks", Check.loaded(room + "walk 300;").bestStay(0, 1, 0, 0), 3);
        Check.due("bestStay behind x", Check.loaded(room + "walk 300;").bestStay(3, 0, 1, 0), 1);
        Check.due("bestStay of many", Check.loaded(room + "walk 0;").bestStay(3, 0, 1, 0), 1);
        Check.due("bestStay of one night", Check.loaded(room).bestStay(29, 0, 1, 0), 1);
        Check.due("bestStay with the offer", Check.loaded("room a mixed 1 0 1;offer 10 50;").bestStay(20, 1, 0, 0), 9);
        // 9 nights earn as much as 18 with the offer
        Check.due("bestStay, a tie", Check.loaded("room a mixed 1 0 1;offer 10 50;").bestStay(12, 1, 0, 0), 9);
    }

    private static void netWithout() {
        HostelBeds hostel = Check.loaded("room a mixed 2 0 10;over 50;walk 7;book x 0 2 2 0 0 0;book y 1 2 0 1 0 0;"
                + "book z 0 1 2 0 0 0;book w 4 1 1 0 0 0;cancel w;book v 5 1 1 0 0 0;absent v;");
        Check.due("net()", hostel.net(), 40 - 14);
        // y gets the bed of x, z stays waiting
        Check.due("netWithout(0)", hostel.netWithout(0), 20);
        Check.due("netWithout(1)", hostel.netWithout(1), 40);
        Check.due("netWithout(2)", hostel.netWithout(2), 26);
        Check.due("netWithout(3)", hostel.netWithout(3), 26);
        Check.due("netWithout(4)", hostel.netWithout(4), 26);
    }

    private static void bestOver() {
        Check.due("bestOver() without anything", new HostelBeds().bestOver(), 0);
        HostelBeds hostel = Check.loaded("room a mixed 2 0 100;walk 99;book x 0 1 2 0 0 0;book y 0 1 1 0 0 0;book z 0 2 1 0 0 0;");
        Check.due("bestOver() with both", hostel.bestOver(), 0);
        hostel.setAbsent(0, true);
        // y comes with 50 percent, z never
        Check.due("bestOver() without x", hostel.bestOver(), 50);
        hostel.cancel(0);
        Check.due("bestOver() with x cancelled", hostel.bestOver(), 0);
        // 10 beds: 1 person more by 10 percent, 3 by 30
        HostelBeds ten = Check.loaded("room a mixed 10 0 10;walk 9;book x 0 1 5 4 0 0;book y 0 1 2 0 0 0;book z 0 1 0 2 0 0;absent x;");
        Check.due("bestOver() of ten beds", ten.bestOver(), 30);
        ten.setAbsent(0, false);
        Check.due("bestOver() of ten beds", ten.bestOver(), 0);
        ten.setAbsent(0, true);
        ten.setAbsent(1, true);
        Check.due("bestOver() of ten beds", ten.bestOver(), 30);
        ten.setAbsent(2, true);
        Check.due("bestOver() of ten beds", ten.bestOver(), 0);
        // from 20 percent on the absent x takes the place of y, from 30 on both are accepted
        Check.due("bestOver() of one room", Check.loaded("room a mixed 10 0 1;book x 0 1 12 0 0 0;absent x;"
                + "book y 0 1 1 0 0 0;").bestOver(), 0);
    }

    private static void bestOverAsTheyAreNow() {
        // told anew with the room that came too late, and nobody of the list is accepted behind it
        HostelBeds late = Check.loaded("book x 0 1 2 0 0 0;room a mixed 2 0 9;book y 0 1 1 0 0 0;");
        Check.due("states", late.state(0) + " " + late.state(1), "0 1");
        Check.due("bestOver()", late.bestOver(), 0);
        Check.due("states", late.state(0) + " " + late.state(1), "0 1");
        // y overbooks and is split or walked
        String text = "room a mixed 2 0 50;room b mixed 2 0 50;book x 0 1 3 0 0 0;book z 0 1 0 1 0 0;book y 0 1 2 0 0 0;absent z;";
        HostelBeds hostel = Check.loaded(text + "over 0;");
        Check.due("bestOver() of a walk", hostel.bestOver(), 0);
        hostel.setAbsent(1, false);
        hostel.setAbsent(0, true);
        Check.due("bestOver() of a split", hostel.bestOver(), 50);
        hostel.setWalk(0);
        hostel.setOver(50);
        Check.due("bestOver() with over", hostel.bestOver(), 50);
        Check.due("setting(0)", hostel.setting(0), 50);
        hostel.setTogether(2, true);
        hostel.setAbsent(0, false);
        Check.due("bestOver() of a free walk", hostel.bestOver(), 0);
    }

    private static void wrongParameters() {
        HostelBeds hostel = Check.loaded("room a mixed 4 0 1;book x 0 2 2 0 0 50;");
        int[][] wrong = {{-1, 1, 1, 0, 0}, {30, 1, 1, 0, 0}, {0, 0, 1, 0, 0}, {0, 31, 1, 0, 0}, {29, 2, 1, 0, 0},
            {0, 1, -1, 2, 0}, {0, 1, 13, 0, 0}, {0, 1, 0, 0, 0}, {0, 1, 2, -1, 0}, {0, 1, 0, 13, 0}, {0, 1, 12, 1, 0},
            {0, 1, 1, 0, -1}, {0, 1, 1, 0, 100}, {Integer.MIN_VALUE, 1, 1, 0, 0}, {0, Integer.MIN_VALUE, 1, 0, 0},
            {0, 1, Integer.MAX_VALUE, Integer.MAX_VALUE, 0}, {0, 1, Integer.MIN_VALUE, Integer.MIN_VALUE, 0}};
        for (int[] w : wrong) {
            String call = "(" + w[0] + ", " + w[1] + ", " + w[2] + ", " + w[3] + ", " + w[4] + ")";
            Check.fails("wouldBe" + call, ARGUMENT, () -> hostel.wouldBe(w[0], w[1], w[2], w[3], w[4]));
            boolean onlyNights = w[0] >= 0 && w[0] < 30 && (w[1] < 1 || w[1] > 30 - w[0]);
            if (!onlyNights) {
                Check.fails("bestStay" + call, ARGUMENT, () -> hostel.bestStay(w[0], w[2], w[3], w[4]));
            }
        }
        for (int booking : new int[] {-1, 1, Integer.MIN_VALUE, Integer.MAX_VALUE}) {
            Check.fails("netWithout(" + booking + ")", INDEX, () -> hostel.netWithout(booking));
        }
    }

    private static void nothingChanges() {
        HostelBeds hostel = Check.loaded("room a mixed 2 0 9;over 10;book x 0 1 2 0 0 0;book y 0 1 1 0 0 0;");
        hostel.setPrice(0, 8);
        hostel.wouldBe(0, 30, 6, 6, 0);
        hostel.bestStay(0, 1, 0, 0);
        hostel.netWithout(0);
        hostel.bestOver();
        Check.due("count(2)", hostel.count(2), 2);
        Check.due("states", hostel.state(0) + " " + hostel.state(1) + " " + hostel.waiting(0), "1 0 1");
        Check.due("beds", hostel.placed(0) + " " + hostel.occupied(0) + " " + hostel.booked(0), "1 2 2");
        Check.due("settings", hostel.setting(0) + " " + hostel.net(), "10 16");
        Check.due("undo()", hostel.undo(), 0);
        Check.due("net()", hostel.net(), 18);
    }
}
