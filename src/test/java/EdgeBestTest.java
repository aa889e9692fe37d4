/** BEST at its edges: what is refused, what a row may draw, and how equal rows are told apart. */
public final class EdgeBestTest {
    private static final Due due = new Due();

    public static void main(String[] args) {
        noBanks();
        lostSensors();
        refusedKeepsTheRow();
        latestAlone();
        whatOfARow();
        zeroIsLet();
        zeroBehindARowOfZeros();
        flowOfNoBook();
        withoutSwitch();
        withoutPress();
        withoutOtherCars();
        unitsAsInATick();
        upToMax();
        warmthAndCooling();
        warmthOfEachRowItsOwn();
        warmthOfTheAir();
        mostContent();
        waitingForTheCold();
        waitingForTheFlow();
        fewestFromTheGreatest();
        fewestFromTheNext();
        fewestInTheThird();
        firstRow();
        allFourInSix();
        asLongAsTold();
        nothingHappens();
        rowStays();
        due.end();
    }

    private static void best(GasYard yard, int[] ask, int content, int... row) {
        String call = "best(" + ask[0] + ", " + ask[1] + ", " + ask[2] + ", " + ask[3] + ")";
        due.is(call, yard.best(ask[0], ask[1], ask[2], ask[3]), content);
        row(yard, call, row);
    }

    private static void row(GasYard yard, String call, int... row) {
        for (int k = 0; k < row.length / 2; k++) {
            due.is(call + ": BANK of TICK " + k, yard.bestOf(k, 0), row[2 * k]);
            due.is(call + ": units of TICK " + k, yard.bestOf(k, 1), row[2 * k + 1]);
        }
        due.is(call + ": behind the row", yard.bestOf(row.length / 2, 0), GasYard.NONE);
        due.is(call + ": units behind the row", yard.bestOf(row.length / 2, 1), GasYard.NONE);
    }

    private static int[] ask(int... numbers) {
        return numbers;
    }

    private static GasYard banks(String book, int... volumesAndContents) {
        GasYard yard = Due.under(book);
        for (int k = 0; k + 1 < volumesAndContents.length; k += 2) {
            yard.bank(volumesAndContents[k], volumesAndContents[k + 1], 0);
        }
        return yard;
    }

    private static void noBanks() {
        due.says("NONE, and nothing happens: no BANKS with SENSORS");
        GasYard yard = new GasYard();
        best(yard, ask(1, 0, 1, 1), GasYard.NONE);
        yard.bank(1, 100, 0);
        best(yard, ask(1, 0, 1, 1), 1, 0, 1);
    }

    private static void lostSensors() {
        due.says("rows of BANKS whose SENSORS are not lost");
        for (int alone = 0; alone < 4; alone++) {
            GasYard yard = banks("warm 0", 1, 400, 1, 400, 1, 400, 1, 400);
            for (int k = 0; k < 4; k++) {
                yard.sensor(0, k, k != alone);
            }
            best(yard, ask(1, 0, 300, 2), 40, alone, 20, alone, 20);
            yard.sensor(0, alone, true);
            due.is("all are lost", yard.best(1, 0, 300, 2), GasYard.NONE);
            row(yard, "refused", alone, 20, alone, 20);
        }
        GasYard yard = banks("flow 0 500;warm 0", 1, 100, 1, 200, 1, 400);
        yard.sensor(0, 1, true);
        best(yard, ask(1, 0, 300, 2), 225, 0, 50, 2, 175);
        yard.sensor(0, 1, false);
        best(yard, ask(1, 0, 300, 2), 250, 1, 100, 2, 150);
    }

    private static void refusedKeepsTheRow() {
        due.says("bestOf: of the latest best() that told a CONTENT");
        int[][] wrong = {{0, 0, 1, 1}, {21, 0, 1, 1}, {1, -1, 1, 1}, {1, 2, 1, 1}, {1, 0, 0, 1}, {1, 0, 301, 1},
            {1, 0, 1, 0}, {1, 0, 1, 7}};
        GasYard yard = banks("warm 0", 1, 100);
        for (int[] ask : wrong) {
            best(yard, ask, GasYard.NONE);
        }
        best(yard, ask(1, 0, 300, 2), 40, 0, 20, 0, 20);
        for (int[] ask : wrong) {
            best(yard, ask, GasYard.NONE, 0, 20, 0, 20);
        }
    }

    private static void latestAlone() {
        due.says("bestOf: of the latest best(), also if its row is shorter, or tells nothing but 0");
        GasYard yard = banks("warm 0", 1, 100);
        best(yard, ask(1, 0, 300, 6), 50, 0, 20, 0, 20, 0, 10, 0, 0, 0, 0, 0, 0);
        best(yard, ask(1, 0, 300, 1), 20, 0, 20);
        best(yard, ask(1, 300, 300, 2), 300, 0, 0, 0, 0);
    }

    private static void whatOfARow() {
        due.says("bestOf: NONE without it, or for another what");
        GasYard yard = new GasYard();
        for (int what = -1; what <= 2; what++) {
            due.is("no best() yet", yard.bestOf(0, what), GasYard.NONE);
        }
        yard.bank(1, 100, 0);
        yard.best(1, 0, 300, 3);
        for (int k : new int[] {Integer.MIN_VALUE, -1, 3, 5, 6, 7, Integer.MAX_VALUE}) {
            due.is("bestOf(" + k + ", 0)", yard.bestOf(k, 0), GasYard.NONE);
            due.is("bestOf(" + k + ", 1)", yard.bestOf(k, 1), GasYard.NONE);
        }
        for (int what : new int[] {Integer.MIN_VALUE, -1, 2, 3, Integer.MAX_VALUE}) {
            due.is("bestOf(0, " + what + ")", yard.bestOf(0, what), GasYard.NONE);
        }
    }

    private static void zeroIsLet() {
        due.says("0 is let");
        GasYard low = banks("warm 0", 1, 0, 1, 10);
        best(low, ask(1, 10, 300, 3), 10, 0, 0, 0, 0, 0, 0);
        GasYard none = banks("flow 0 0", 1, 400, 1, 400);
        best(none, ask(1, 0, 300, 2), 0, 0, 0, 0, 0);
        due.says("0 is let: a CAR of no CONTENT from empty BANKS");
        GasYard empty = banks("warm 0", 1, 0);
        best(empty, ask(1, 0, 1, 1), 0, 0, 0);
    }

    private static void zeroBehindARowOfZeros() {
        due.says("the first row by BANKS, also if none of the rows draws a unit and an earlier best() drew none");
        GasYard yard = banks("warm 0", 1, 0, 1, 0);
        yard.sensor(0, 0, true);
        best(yard, ask(1, 0, 300, 2), 0, 1, 0, 1, 0);
        yard.sensor(0, 0, false);
        best(yard, ask(1, 0, 300, 2), 0, 0, 0, 0, 0);
    }

    private static void flowOfNoBook() {
        due.says("units as in II: without any flow: 0 20");
        GasYard yard = banks("warm 0", 1, 60, 1, 400);
        best(yard, ask(1, 0, 300, 3), 60, 0, 20, 1, 20, 1, 20);
    }

    private static void withoutSwitch() {
        due.says("without switch");
        GasYard yard = banks("flow 0 5;switch 500;warm 0", 100, 40000);
        best(yard, ask(1, 0, 300, 2), 10, 0, 5, 0, 5);
    }

    private static void withoutPress() {
        due.says("without press");
        GasYard yard = Due.under("press 500;flow 0 500;warm 0");
        yard.bank(1, 100, 400);
        best(yard, ask(1, 0, 300, 3), 50, 0, 50, 0, 0, 0, 0);
    }

    private static void withoutOtherCars() {
        due.says("without other CARS");
        GasYard yard = banks("press 0;flow 0 10;warm 0", 1, 100);
        yard.hoses(2);
        yard.car(1, 0, 300);
        yard.car(1, 0, 300);
        yard.pass(1);
        due.is("CONTENT of the BANK", yard.banks(0, 0), 80);
        best(yard, ask(1, 0, 300, 6), 40, 0, 10, 0, 10, 0, 10, 0, 10, 0, 0, 0, 0);
    }

    private static void unitsAsInATick() {
        due.says("from each so many units in its TICK as in II: FLOW at the difference, what makes them even");
        GasYard yard = banks("flow 0 2;flow 50 9;flow 60 500;warm 0", 10, 1000);
        best(yard, ask(10, 495, 300, 2), 506, 0, 9, 0, 2);
        // 100 less 41 is 59, then 991 by 10 less 50 is 49
        best(yard, ask(1, 41, 300, 2), 52, 0, 9, 0, 2);
        best(yard, ask(1, 0, 300, 1), 90, 0, 90);
        due.says("the BANK of a row has so much less in its next TICK");
        GasYard even = banks("flow 0 500;warm 0", 1, 100, 1, 104);
        best(even, ask(1, 0, 300, 3), 77, 0, 50, 0, 0, 1, 27);
    }

    private static void upToMax() {
        due.says("what lacks to VOLUME * MAX");
        GasYard yard = banks("flow 0 7;warm 0", 100, 40000);
        best(yard, ask(2, 0, 10, 2), 14, 0, 7, 0, 7);
        best(yard, ask(2, 0, 10, 3), 20, 0, 7, 0, 7, 0, 6);
        best(yard, ask(2, 0, 10, 4), 20, 0, 7, 0, 7, 0, 6, 0, 0);
        best(yard, ask(2, 20, 10, 1), 20, 0, 0);
        best(yard, ask(2, 19, 10, 1), 20, 0, 1);
    }

    private static void warmthAndCooling() {
        due.says("WARMTH as in (b), (c)");
        GasYard yard = banks("flow 0 500;warm 10;limit 20;cool 2", 100, 40000);
        // 150 + 50, less 25; 175 + 20, less 22; 173 + 20, less 21; 172 + 20, less 21; 171 + 20, less 20
        best(yard, ask(1, 0, 300, 6), 5 + 2 + 2 + 2 + 2 + 2, 0, 5, 0, 2, 0, 2, 0, 2, 0, 2, 0, 2);
        GasYard slow = banks("flow 0 500;warm 10;limit 20;cool 100", 100, 40000);
        best(slow, ask(1, 0, 300, 3), 5, 0, 5, 0, 0, 0, 0);
        GasYard quick = banks("flow 0 500;warm 10;limit 20;cool 1", 100, 40000);
        best(quick, ask(1, 0, 300, 3), 15, 0, 5, 0, 5, 0, 5);
    }

    private static void warmthOfEachRowItsOwn() {
        due.says("WARMTH as in (b), (c): of each row its own, from that of the AIR on");
        GasYard yard = banks("flow 0 500;warm 10;limit 20;cool 2", 1, 6, 100, 40000);
        best(yard, ask(1, 0, 300, 1), 5, 1, 5);
        // 3 of BANK 0 leave 165, so 3 of BANK 1; 5 of BANK 1 leave 175, so 2 more, and none of BANK 0
        best(yard, ask(1, 0, 300, 2), 7, 1, 5, 1, 2);
    }

    private static void warmthOfTheAir() {
        due.says("WARMTH that of the AIR");
        GasYard yard = banks("flow 0 500;warm 10;limit 20;cool 100", 100, 40000);
        int[][] wants = {{-30, 50}, {0, 20}, {19, 1}, {20, 0}, {21, 0}, {50, 0}};
        for (int[] want : wants) {
            yard.air(want[0]);
            best(yard, ask(1, 0, 300, 1), want[1], 0, want[1]);
        }
        due.says("a WARMTH above the limit: 0, also with warm 0");
        GasYard still = banks("flow 0 500;warm 0;limit 20", 100, 40000);
        still.air(21);
        best(still, ask(1, 0, 300, 2), 0, 0, 0, 0, 0);
        still.air(20);
        best(still, ask(1, 0, 300, 1), 300, 0, 300);
    }

    private static void mostContent() {
        due.says("the most CONTENT, though the greatest BANK gives it");
        GasYard yard = banks("flow 0 500;warm 0", 1, 100, 1, 101, 1, 102, 1, 103);
        best(yard, ask(1, 0, 300, 1), 51, 2, 51);
        best(yard, ask(1, 0, 300, 2), 77, 2, 51, 3, 26);
        due.says("the most CONTENT by one unit");
        GasYard one = banks("flow 0 500;warm 0", 1, 101, 1, 102);
        best(one, ask(1, 0, 300, 1), 51, 1, 51);
    }

    private static void waitingForTheCold() {
        due.says("0 is let: a TICK at a BANK that gives none may be the way to the most CONTENT");
        String book = "flow 394 50;warm 10;limit 20;cool 2";
        // 5 leave 175 and a difference of 394; 2 more would leave one of 392, which gives none;
        // a TICK without any leaves 163, and so lets 3
        GasYard yard = banks(book, 100, 39950, 1, 0);
        best(yard, ask(1, 0, 300, 3), 8, 0, 5, 1, 0, 0, 3);
        best(yard, ask(1, 0, 300, 4), 9, 0, 5, 1, 0, 1, 0, 0, 4);
        due.says("rows of n BANKS: no TICK without a BANK, or at one whose SENSOR is lost");
        yard.sensor(0, 1, true);
        best(yard, ask(1, 0, 300, 3), 7, 0, 5, 0, 2, 0, 0);
        GasYard alone = banks(book, 100, 39950);
        best(alone, ask(1, 0, 300, 3), 7, 0, 5, 0, 2, 0, 0);
    }

    private static void waitingForTheFlow() {
        due.says("the most CONTENT: less in one TICK may be more at the end");
        // a difference of 60 or more gives but 1, so what BANK 0 gives may bring BANK 1 to give 30
        GasYard yard = banks("flow 0 30;flow 60 1;warm 0", 1, 40, 100, 10000);
        best(yard, ask(1, 0, 300, 2), 21, 0, 20, 1, 1);
        best(yard, ask(1, 25, 300, 3), 25 + 7 + 1 + 1, 0, 7, 1, 1, 1, 1);
        best(yard, ask(1, 34, 300, 3), 34 + 3 + 1 + 1, 0, 3, 1, 1, 1, 1);
        // the first unit of BANK 1 brings its PRESSURE down to 99, which is 59 above 40
        best(yard, ask(1, 38, 300, 3), 38 + 1 + 1 + 30, 0, 1, 1, 1, 1, 30);
        best(yard, ask(1, 38, 300, 4), 38 + 1 + 1 + 30 + 29, 0, 1, 1, 1, 1, 30, 1, 29);
        due.says("the most CONTENT: 1 unit now for 30 later, where the other BANK gives 4 now");
        GasYard less = banks("flow 0 30;flow 60 1;warm 0", 1, 46, 100, 10000);
        best(less, ask(1, 38, 300, 1), 38 + 4, 0, 4);
        best(less, ask(1, 38, 300, 2), 38 + 4 + 30, 0, 4, 1, 30);
    }

    private static void fewestFromTheGreatest() {
        due.says("then the fewest units from the BANK of the greatest number");
        GasYard two = banks("flow 0 10;warm 0", 1, 12, 1, 400);
        best(two, ask(1, 0, 16, 2), 16, 0, 6, 1, 10);
        best(two, ask(1, 0, 10, 1), 10, 1, 10);
        best(two, ask(1, 0, 6, 1), 6, 0, 6);
        best(two, ask(1, 0, 10, 2), 10, 0, 6, 1, 4);
        GasYard all = banks("flow 0 100;warm 0", 1, 300, 1, 200);
        best(all, ask(1, 0, 100, 2), 100, 0, 100, 0, 0);
        GasYard high = banks("flow 0 6;flow 90 4;warm 0", 1, 100, 1, 100);
        best(high, ask(1, 8, 18, 2), 18, 0, 4, 0, 6);
    }

    private static void fewestFromTheNext() {
        due.says("then from the next one, and so on");
        // BANK 2 is not needed; of 0 and 1 the fewest from 1
        GasYard three = banks("flow 0 10;warm 0", 1, 12, 1, 400, 1, 400);
        best(three, ask(1, 0, 16, 2), 16, 0, 6, 1, 10);
        best(three, ask(1, 0, 300, 3), 30, 1, 10, 1, 10, 1, 10);
        best(three, ask(1, 0, 26, 3), 26, 0, 6, 1, 10, 1, 10);
        due.says("the fewest from the greatest, though more come from the next one");
        GasYard next = banks("flow 0 10;warm 0", 1, 2, 1, 400, 1, 400);
        best(next, ask(1, 0, 20, 2), 20, 1, 10, 1, 10);
    }

    private static void fewestInTheThird() {
        due.says("and so on: as many from the greatest, as many from the next one, the fewest from the third");
        GasYard yard = banks("flow 0 10;warm 0", 1, 8, 1, 24, 1, 44, 1, 400);
        best(yard, ask(1, 0, 300, 1), 10, 1, 10);
        best(yard, ask(1, 0, 300, 2), 20, 1, 10, 2, 10);
        best(yard, ask(1, 0, 14, 2), 14, 0, 4, 1, 10);
        best(yard, ask(1, 0, 24, 3), 24, 0, 4, 1, 10, 2, 10);
        due.says("the fewest units from the greatest, though a later row tells them");
        // 0, 1, 2, 3 would draw 10 and 9 from BANK 3
        best(yard, ask(1, 0, 34, 4), 34, 1, 10, 2, 10, 2, 7, 3, 7);
        best(yard, ask(1, 0, 33, 4), 33, 1, 10, 2, 10, 2, 7, 3, 6);
    }

    private static void firstRow() {
        due.says("then the first row by BANKS");
        GasYard same = banks("flow 0 10;warm 0", 1, 400, 1, 400, 1, 400, 1, 400);
        best(same, ask(1, 0, 300, 4), 40, 0, 10, 0, 10, 0, 10, 0, 10);
        // BANK 0 gives none at all, so where it stands in a row is free: first
        GasYard none = banks("flow 0 10;warm 0", 1, 0, 1, 20);
        best(none, ask(1, 0, 300, 3), 10, 0, 0, 0, 0, 1, 10);
        due.says("the first row by BANKS: 0 at its first place, not the most units first");
        GasYard order = banks("flow 0 10;warm 0", 1, 24, 1, 24);
        best(order, ask(1, 0, 10, 2), 10, 0, 10, 0, 0);
        best(order, ask(1, 0, 300, 2), 17, 0, 10, 1, 7);
        best(order, ask(1, 0, 300, 3), 18, 0, 10, 0, 2, 1, 6);
    }

    private static void allFourInSix() {
        due.says("all rows of 4 BANKS in 6 TICKS");
        GasYard yard = banks("flow 0 500;warm 0", 1, 50, 1, 100, 1, 200, 1, 400);
        // 25, 62, 131, 265; two TICKS are left over, and the first row by BANKS spends them at BANK 0
        due.is("best", yard.best(1, 0, 300, 6), 265);
        int[] units = new int[4];
        int content = 0;
        for (int k = 0; k < 6; k++) {
            units[yard.bestOf(k, 0)] += yard.bestOf(k, 1);
            content += yard.bestOf(k, 1);
        }
        due.is("its units", content, 265);
        due.is("of BANK 0", units[0], 25);
        due.is("of BANK 1", units[1], 37);
        due.is("of BANK 2", units[2], 69);
        due.is("of BANK 3", units[3], 134);
        row(yard, "the row", 0, 25, 0, 0, 0, 0, 1, 37, 2, 69, 3, 134);
    }

    private static void asLongAsTold() {
        due.says("rows of n BANKS: each n from 1 to 6");
        GasYard yard = banks("flow 0 10;warm 0", 100, 40000);
        for (int n = 1; n <= 6; n++) {
            due.is("best of " + n, yard.best(1, 0, 300, n), 10 * n);
            for (int k = 0; k < 7; k++) {
                due.is("bestOf(" + k + ", 1) of " + n, yard.bestOf(k, 1), k < n ? 10 : GasYard.NONE);
                due.is("bestOf(" + k + ", 0) of " + n, yard.bestOf(k, 0), k < n ? 0 : GasYard.NONE);
            }
        }
    }

    private static void nothingHappens() {
        due.says("BEST tells, and changes nothing of BANKS and CARS");
        GasYard yard = banks("flow 0 10;warm 5", 3, 900, 2, 700);
        yard.car(1, 0, 300);
        yard.pass(1);
        yard.best(2, 30, 200, 6);
        due.banksAre(yard, 0, 890, 296, 0, 10, 0, 0);
        due.banksAre(yard, 1, 700, 350, 0, 0, 0, 0);
        due.carsAre(yard, 0, 1, 10, 10, 195, 0, 0, GasYard.NONE, 10);
        int[] counts = {1, 2, 1, 0, 0, 0, 0, 0, 1600, 0};
        for (int what = 0; what < counts.length; what++) {
            due.is("count(" + what + ")", yard.count(what), counts[what]);
        }
    }

    private static void rowStays() {
        due.says("bestOf: of the latest best(), whatever happens then");
        GasYard yard = banks("flow 0 10;warm 0", 1, 400, 1, 400);
        yard.best(1, 0, 300, 2);
        yard.pass(3);
        yard.sensor(0, 0, true);
        yard.reading(1, 0);
        Due.book(yard, "flow 0 1");
        row(yard, "later", 0, 10, 0, 10);
    }
}
