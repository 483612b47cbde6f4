/** Promises 26 to 31: pays, walkCost, net, chance, risk, expectedWalks. */
public final class MoneyTest {
    private static final Class<IndexOutOfBoundsException> INDEX = IndexOutOfBoundsException.class;

    public static void main(String[] args) {
        pays();
        walks();
        chances();
        risks();
        wrongParameters();
        Check.finish();
    }

    private static void pays() {
        HostelBeds hostel = Check.loaded("room a women 3 0 11;room b men 2 0 20;offer 3 10;book x 0 3 1 0 0 0;"
                + "book y 3 3 2 0 0 0;book z 6 2 2 0 0 0;book w 8 4 2 1 0 0;book v 0 30 0 1 0 0;");
        // 33 * 0.9 and 66 * 0.9 rounded down, 44 as it is, 4 * (11 + 11 + 20) * 0.9
        int[] due = {29, 59, 44, 151, 540};
        for (int booking = 0; booking < 5; booking++) {
            Check.due("pays(" + booking + ")", hostel.pays(booking), due[booking]);
        }
        Check.due("net()", hostel.net(), 29 + 59 + 44 + 151 + 540);
        Check.due("walkCost()", hostel.walkCost(), 0);
        hostel.setPrice(0, 12);
        Check.due("pays(0) by the new PRICE", hostel.pays(0), 32);
        hostel.setAbsent(0, true);
        Check.due("pays(0) of an absent one", hostel.pays(0), 0);
        HostelBeds offer = Check.loaded("room a mixed 1 0 3;book x 0 6 1 0 0 0;book y 6 7 1 0 0 0;");
        Check.due("pays(0) below the offer", offer.pays(0), 18);
        Check.due("pays(1) with the offer", offer.pays(1), 18);
    }

    private static void walks() {
        HostelBeds hostel = Check.loaded("room a women 2 0 5;room b men 2 0 5;over 50;walk 40;book x 0 3 0 2 0 0;"
                + "book y 0 3 0 2 0 0;book z 2 10 1 1 0 0 together;book w 20 2 0 3 0 0;absent w;");
        Check.due("pays(1)", hostel.pays(1), 0);
        Check.due("walkCost()", hostel.walkCost(), 40 * (2 * 3 + 2 * 10));
        Check.due("net()", hostel.net(), 30 - 1040);
        hostel.setAbsent(3, false);
        Check.due("walkCost()", hostel.walkCost(), 1040 + 240);
        hostel.setWalk(0);
        Check.due("walkCost()", hostel.walkCost(), 0);
        Check.due("net()", hostel.net(), 30);
    }

    private static void chances() {
        HostelBeds hostel = Check.loaded("room a mixed 4 0 1;over 50;book x 0 3 2 0 0 50;book y 1 2 0 1 0 25;"
                + "book z 1 1 1 0 0 100;book w 1 1 3 0 0 0;book v 2 1 0 3 0 90;book u 2 1 2 0 0 30;absent y;");
        Check.due("states", hostel.state(3) + " " + hostel.state(4) + " " + hostel.state(5), "0 1 0");
        // nights 0 and 1: exact, night 2: as the steps of the document give it
        double[][] due = {{0.5, 0, 0.5, 0, 0, 0}, {0, 0.375, 0.125, 0.375, 0.125, 0}};
        for (int night = 0; night < 2; night++) {
            for (int guests = 0; guests < 6; guests++) {
                Check.due("chance(" + night + ", " + guests + ")", hostel.chance(night, guests), due[night][guests]);
            }
        }
        double c = 90 / 100.0;
        double[] last = {0.375 * (1.0 - c), 0.125 * (1.0 - c), 0.375 * (1.0 - c), 0.125 * (1.0 - c) + 0.375 * c,
            0.125 * c, 0.375 * c, 0.125 * c, 0.0};
        for (int guests = 0; guests < 8; guests++) {
            Check.due("chance(2, " + guests + ")", hostel.chance(2, guests), last[guests]);
        }
        for (int guests : new int[] {-1, Integer.MIN_VALUE, 7, 192, 193, 1000, Integer.MAX_VALUE}) {
            Check.due("chance(2, " + guests + ")", hostel.chance(2, guests), 0.0);
        }
        Check.due("chance(3, 0)", hostel.chance(3, 0), 1.0);
        Check.due("chance(3, 1)", hostel.chance(3, 1), 0.0);
    }

    private static void risks() {
        HostelBeds hostel = Check.loaded("room a mixed 4 0 1;over 50;book x 0 2 2 0 0 50;book y 0 1 0 1 0 25;"
                + "book z 0 1 3 0 0 50;book w 1 1 1 1 0 70;book v 1 1 2 0 0 10;");
        // 0: p(5) = 0.75 * 0.25, p(6) = 0.25 * 0.25; 4 guests have beds
        Check.due("risk(0)", hostel.risk(0), 0.25);
        Check.due("expectedWalks(0)", hostel.expectedWalks(0), 0.3125);
        double c = 70 / 100.0;
        double d = 10 / 100.0;
        double six = 0.5 * c * d;
        Check.due("risk(1)", hostel.risk(1), six);
        Check.due("expectedWalks(1)", hostel.expectedWalks(1), 2 * six);
        Check.due("risk(2)", hostel.risk(2), 0.0);
        Check.due("expectedWalks(2)", hostel.expectedWalks(2), 0.0);
        Check.due("expectedWalks(0) alone", hostel.expectedWalks(0), 0.3125);
        Check.due("chance(1, 0) alone", hostel.chance(1, 0), 0.5 * (1.0 - c) * (1.0 - d));
        hostel.setAbsent(0, true);
        Check.due("risk(0) with an absent one", hostel.risk(0), 0.25);
        hostel.cancel(0);
        Check.due("risk(0) without it", hostel.risk(0), 0.0);
    }

    private static void wrongParameters() {
        HostelBeds hostel = Check.loaded("room a mixed 4 0 1;book x 0 2 2 0 0 50;");
        for (int wrong : new int[] {-1, 30, Integer.MIN_VALUE, Integer.MAX_VALUE}) {
            Check.fails("pays", INDEX, () -> hostel.pays(wrong));
            Check.fails("chance", INDEX, () -> hostel.chance(wrong, 0));
            Check.fails("chance", INDEX, () -> hostel.chance(wrong, -1));
            Check.fails("risk", INDEX, () -> hostel.risk(wrong));
            Check.fails("expectedWalks", INDEX, () -> hostel.expectedWalks(wrong));
        }
        Check.fails("pays(1)", INDEX, () -> hostel.pays(1));
    }
}
