/** Promises 4 (air), 5 (hoses), 12 (sensor), 13 (car), 14 (pass: lines, hoses, warmth), 20 (cars). */
public final class LineTest {
    private static final Due due = new Due();

    public static void main(String[] args) {
        airs();
        toldCars();
        manyCars();
        hoseCounts();
        passes();
        fillsUp();
        evens();
        banksInTurn();
        noBanks();
        warmth();
        cooling();
        twoHoses();
        switches();
        lostBanks();
        lostCars();
        due.end();
    }

    private static GasYard still(String book) {
        GasYard yard = new GasYard();
        if (Due.book(yard, "press 0;" + book) < 0) {
            due.is("book " + book, 0, 1);
        }
        return yard;
    }

    private static void airs() {
        GasYard yard = new GasYard();
        due.is("air(-30)", yard.air(-30), 15);
        due.is("air(50)", yard.air(50), -30);
        for (int degrees : new int[] {-31, 51, Integer.MIN_VALUE, Integer.MAX_VALUE}) {
            due.is("wrong air", yard.air(degrees), -100);
        }
        yard.car(1, 0, 1);
        due.is("warmth as it comes", yard.cars(0, 3), 500);
        due.is("air stays", yard.air(-3), 50);
        yard.car(1, 0, 1);
        due.is("warmth of the next one", yard.cars(1, 3), -30);
        due.is("warmth of the first one", yard.cars(0, 3), 500);
    }

    private static void toldCars() {
        GasYard yard = new GasYard();
        int[][] wrong = {
            {0, 0, 1}, {21, 0, 1}, {-1, 0, 1}, {1, -1, 1}, {1, 2, 1}, {20, 6001, 300}, {1, 0, 0}, {1, 0, 301},
            {Integer.MAX_VALUE, 0, 1}, {Integer.MIN_VALUE, 0, 1}, {1, Integer.MAX_VALUE, 1},
            {1, Integer.MIN_VALUE, 1}, {1, 0, Integer.MAX_VALUE}, {1, 0, Integer.MIN_VALUE},
        };
        for (int[] told : wrong) {
            due.is("wrong car", yard.car(told[0], told[1], told[2]), GasYard.NONE);
        }
        due.is("no car", yard.count(2), 0);
        due.is("least car", yard.car(1, 0, 1), 0);
        due.is("greatest car", yard.car(20, 6000, 300), 1);
        due.is("car with a rest", yard.car(3, 8, 3), 2);
        due.is("in line", yard.count(3), 3);
        due.is("all gas", yard.count(8), 6008);
        due.carsAre(yard, 2, 0, 8, 2, 150, -1, -1, -1, 0, -1);
        due.carsAre(yard, 3, -1, -1, -1, -1000, -1, -1, -1, -1, -1);
        due.is("cars(-1, 0)", yard.cars(-1, 0), -1);
        due.is("cars(-1, 3)", yard.cars(-1, 3), -1000);
        due.is("cars(MAX, 3)", yard.cars(Integer.MAX_VALUE, 3), -1000);
        due.is("cars(0, -1)", yard.cars(0, -1), -1);
    }

    private static void manyCars() {
        GasYard yard = new GasYard();
        for (int k = 0; k < 60; k++) {
            due.is("car", yard.car(1, 0, 1), k);
        }
        due.is("the 61st car", yard.car(1, 0, 1), GasYard.NONE);
        yard.pass(10);
        due.is("cars that went still count", yard.car(1, 0, 1), GasYard.NONE);
        due.is("ten went", yard.count(3), 50);
        due.is("cars(59, 0)", yard.cars(59, 0), 0);
        yard.pass(50);
        due.carsAre(yard, 59, 3, 0, 0, 150, -1, 59, 59, 0);
    }

    private static void hoseCounts() {
        GasYard yard = still("flow 0 1");
        for (int n : new int[] {0, 3, -1, Integer.MIN_VALUE, Integer.MAX_VALUE}) {
            due.is("wrong hoses", yard.hoses(n), GasYard.NONE);
        }
        due.is("hoses(2)", yard.hoses(2), 1);
        due.is("hoses(1) without cars", yard.hoses(1), 2);
        due.is("hoses(2) again", yard.hoses(2), 1);
        yard.bank(100, 40000, 0);
        yard.car(1, 0, 2);
        yard.car(1, 0, 200);
        yard.pass(1);
        due.is("a car is at hose 1", yard.hoses(1), GasYard.NONE);
        due.is("hoses(2) as it is", yard.hoses(2), 2);
        yard.pass(2);
        due.is("hose 0 is free, 1 is not", yard.cars(0, 0), 2);
        due.is("hose 1 would go with its car", yard.hoses(1), GasYard.NONE);
        yard.sensor(1, 1, true);
        yard.pass(1);
        due.is("both are free", yard.hoses(1), 2);
        yard.car(1, 0, 200);
        yard.car(1, 0, 200);
        yard.pass(1);
        due.is("hose 0 alone takes one", yard.cars(2, 0), 1);
        due.is("the next one waits", yard.cars(3, 0), 0);
        due.is("hoses(1) with a car at hose 0", yard.hoses(1), 1);
        yard.hoses(2);
        yard.pass(1);
        due.is("hose 1 takes the next", yard.cars(3, 0), 1);
    }

    private static void passes() {
        GasYard yard = new GasYard();
        for (int ticks : new int[] {0, 501, -1, Integer.MIN_VALUE, Integer.MAX_VALUE}) {
            due.is("wrong pass", yard.pass(ticks), GasYard.NONE);
        }
        due.is("pass(1)", yard.pass(1), 1);
        for (int k = 1; k < 20; k++) {
            due.is("pass(500)", yard.pass(500), 1 + 500 * k);
        }
        due.is("beyond 9999", yard.pass(499), GasYard.NONE);
        due.is("now stays", yard.count(0), 9501);
        due.is("up to 9999", yard.pass(498), 9999);
        due.is("no tick more", yard.pass(1), GasYard.NONE);
    }

    private static void fillsUp() {
        GasYard yard = still("flow 0 30;warm 0");
        yard.bank(100, 40000, 0);
        yard.pass(3);
        yard.car(4, 10, 20);
        yard.pass(1);
        due.carsAre(yard, 0, 1, 40, 10, 150, 0, 3, -1, 30);
        due.banksAre(yard, 0, 39970, 399, 0, 30);
        yard.pass(2);
        due.carsAre(yard, 0, 1, 80, 20, 150, 0, 3, -1, 70);
        due.is("full cars go in the tick behind", yard.pass(1), 7);
        due.carsAre(yard, 0, 2, 80, 20, 150, -1, 3, 6, 70);
        due.is("units drawn", yard.banks(0, 3), 70);
        due.is("all gas", yard.count(8), 40010);
    }

    private static void evens() {
        GasYard yard = still("flow 0 500;warm 0");
        yard.bank(10, 1000, 0);
        yard.car(7, 0, 300);
        yard.pass(1);
        // (1000 - f) * 7 >= f * 10: f is 411 at most
        due.is("even", yard.cars(0, 1), 411);
        due.is("even bank", yard.banks(0, 0), 589);
        yard.pass(1);
        due.carsAre(yard, 0, 3, 411, 58, 150, -1, 0, 1, 411);
    }

    private static void banksInTurn() {
        GasYard yard = still("flow 0 500;flow 1 400;warm 0");
        yard.bank(1, 50, 0);
        yard.bank(2, 400, 0);
        yard.bank(3, 3, 0);
        yard.bank(1, 300, 0);
        yard.car(1, 0, 300);
        yard.pass(1);
        due.is("half of bank 0", yard.cars(0, 1), 25);
        due.is("from bank 0", yard.cars(0, 4), 0);
        yard.pass(1);
        // bank 0 is even: bank 1 in the same tick; (400 - f) >= (25 + f) * 2: 116
        due.is("from bank 1", yard.cars(0, 4), 1);
        due.is("even with bank 1", yard.cars(0, 1), 141);
        yard.pass(1);
        // banks 1 and 2 give none: bank 3; 300 - f >= 141 + f: 79
        due.is("from bank 3", yard.cars(0, 4), 3);
        due.is("even with bank 3", yard.cars(0, 1), 220);
        due.is("came at 0", yard.cars(0, 5), 0);
        yard.pass(1);
        due.carsAre(yard, 0, 3, 220, 220, 150, -1, 0, 3, 220);
        due.banksAre(yard, 0, 25, 25, 0, 25);
        due.banksAre(yard, 1, 284, 142, 0, 116);
        due.banksAre(yard, 2, 3, 1, 0, 0);
        due.banksAre(yard, 3, 221, 221, 0, 79);
    }

    private static void noBanks() {
        GasYard yard = new GasYard();
        yard.car(2, 6, 3);
        yard.car(2, 5, 3);
        yard.pass(2);
        due.carsAre(yard, 0, 2, 6, 3, 150, -1, 0, 0, 0);
        due.carsAre(yard, 1, 3, 5, 2, 150, -1, 1, 1, 0);
    }

    private static void warmth() {
        GasYard yard = still("flow 0 500;warm 7;limit 20;cool 100");
        yard.bank(100, 40000, 0);
        yard.car(3, 0, 300);
        yard.pass(1);
        // 150 + f * 7 / 3 is not above 200: f is 21 at most (49); one more would be 51
        due.is("units up to the limit", yard.cars(0, 1), 21);
        due.is("warmth", yard.cars(0, 3), 199);
        yard.pass(1);
        // 199 + f * 7 / 3 is not above 200: none of 1 (2) is let
        due.is("short by warmth", yard.cars(0, 0), 3);
        due.is("content by warmth", yard.cars(0, 1), 21);

        GasYard hot = still("warm 0;limit 14");
        hot.bank(100, 40000, 0);
        hot.car(3, 0, 300);
        hot.pass(1);
        due.is("already above the limit", hot.cars(0, 0), 3);

        GasYard even = still("flow 0 500;warm 0;limit 15");
        even.bank(100, 40000, 0);
        even.car(3, 0, 300);
        even.pass(1);
        due.is("just at the limit, without warming", even.cars(0, 1), 500);
    }

    private static void cooling() {
        GasYard yard = still("cool 7;flow 0 10;warm 10");
        yard.bank(100, 40000, 0);
        yard.car(1, 0, 300);
        yard.car(1, 0, 300);
        yard.pass(1);
        // 150 + 100, less 100 / 7
        due.is("warmth at the hose", yard.cars(0, 3), 236);
        due.is("warmth in line", yard.cars(1, 3), 150);
        yard.air(-3);
        yard.sensor(1, 0, true);
        yard.pass(1);
        due.is("a car that went cools no more", yard.cars(0, 3), 236);
        // 150 less 180 / 7
        due.is("cooling in line", yard.cars(1, 3), 125);
        yard.air(50);
        yard.sensor(1, 1, true);
        yard.car(1, 0, 300);
        yard.air(0);
        yard.car(1, 0, 300);
        yard.air(50);
        yard.pass(1);
        // from below: 0 less -500 / 7, towards 0
        due.is("warming in line", yard.cars(3, 3), 71);
    }

    private static void twoHoses() {
        GasYard yard = still("flow 0 500;warm 0");
        yard.hoses(2);
        yard.bank(1, 100, 0);
        yard.car(1, 0, 300);
        yard.car(1, 0, 300);
        yard.car(1, 0, 300);
        yard.pass(1);
        due.is("hose 0 draws first", yard.cars(0, 1), 50);
        due.is("hose 1 from what is left", yard.cars(1, 1), 25);
        due.is("the third waits", yard.count(3), 1);
        yard.pass(1);
        due.is("the first goes", yard.cars(0, 6), 1);
        due.is("the second goes", yard.cars(1, 6), 1);
        due.is("its hose is free in the next tick", yard.cars(2, 0), 0);
        yard.pass(1);
        due.is("the third comes", yard.cars(2, 5), 2);
        due.is("and draws", yard.cars(2, 1), 12);
    }

    private static void switches() {
        GasYard yard = still("flow 0 10;switch 10;warm 0");
        yard.bank(1, 100, 0);
        yard.bank(1, 200, 0);
        yard.car(1, 80, 300);
        yard.pass(1);
        due.is("ten is not below switch", yard.cars(0, 1), 90);
        due.is("from bank 0", yard.cars(0, 4), 0);
        yard.pass(1);
        due.is("from bank 1", yard.cars(0, 4), 1);
        yard.reading(0, 400);
        yard.pass(1);
        due.is("never back", yard.cars(0, 4), 1);
    }

    private static void lostBanks() {
        GasYard yard = still("flow 0 10;warm 0");
        due.is("no bank", yard.sensor(0, 0, true), false);
        yard.bank(100, 40000, 0);
        yard.bank(100, 20000, 0);
        due.is("found already", yard.sensor(0, 0, false), false);
        due.is("lost", yard.sensor(0, 0, true), true);
        due.is("lost already", yard.sensor(0, 0, true), false);
        due.is("banks tell it", yard.banks(0, 5), 1);
        due.is("of another kind", yard.sensor(2, 0, true), false);
        due.is("of a kind below", yard.sensor(-1, 0, true), false);
        due.is("bank -1", yard.sensor(0, -1, true), false);
        due.is("bank 2", yard.sensor(0, 2, true), false);
        due.is("bank MAX", yard.sensor(0, Integer.MAX_VALUE, true), false);
        yard.car(1, 0, 300);
        yard.pass(1);
        due.is("from bank 1", yard.cars(0, 4), 1);
        due.is("found again", yard.sensor(0, 0, false), true);
        due.is("banks tell that", yard.banks(0, 5), 0);
        yard.sensor(0, 1, true);
        yard.pass(1);
        due.carsAre(yard, 0, 3, 10, 10, 150, -1, 0, 1, 10);
    }

    private static void lostCars() {
        GasYard yard = still("flow 0 10;warm 0");
        due.is("no car", yard.sensor(1, 0, true), false);
        yard.bank(100, 40000, 0);
        yard.car(1, 0, 300);
        yard.car(1, 0, 300);
        yard.car(1, 300, 300);
        yard.pass(1);
        due.is("at a hose", yard.sensor(1, 0, true), true);
        due.is("at a hose again", yard.sensor(1, 0, true), false);
        due.is("in line", yard.sensor(1, 1, true), true);
        due.is("in line and back", yard.sensor(1, 1, false), true);
        due.is("in line once more", yard.sensor(1, 1, true), true);
        due.is("a full one", yard.sensor(1, 2, true), true);
        due.is("car 3", yard.sensor(1, 3, true), false);
        due.is("car -1", yard.sensor(1, -1, true), false);
        yard.pass(1);
        due.carsAre(yard, 0, 4, 10, 10, 150, -1, 0, 1, 10);
        due.is("one that went", yard.sensor(1, 0, false), false);
        yard.pass(1);
        due.carsAre(yard, 1, 4, 0, 0, 150, -1, 2, 2, 0);
        yard.pass(1);
        due.carsAre(yard, 2, 4, 300, 300, 150, -1, 3, 3, 0);
    }
}
