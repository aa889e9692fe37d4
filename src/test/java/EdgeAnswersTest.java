/** What banks(), cars() and count() answer at their edges: each what, in each state, and what is not there. */
public final class EdgeAnswersTest {
    private static final Due due = new Due();
    private static final int NONE = GasYard.NONE;
    private static final int[] FAR = {Integer.MIN_VALUE, -1000, -2, -1};

    public static void main(String[] args) {
        newObject();
        banksThatAreNotThere();
        carsThatAreNotThere();
        anotherWhat();
        aCarInEachState();
        aBankInEachState();
        warmthIsNoRefusal();
        countsOfCars();
        due.end();
    }

    private static void newObject() {
        due.says("A new object: No BANKS, no CARS; TICK 0");
        GasYard yard = new GasYard();
        int[] wants = {0, 0, 0, 0, 0, 0, 0, 0, 0, 0, 10, 10, 85, 20, 1};
        for (int what = 0; what < wants.length; what++) {
            due.is("count(" + what + ")", yard.count(what), wants[what]);
        }
        due.is("best", yard.best(1, 0, 1, 1), NONE);
        due.is("book of an empty TAPE", yard.book(), 0);
        due.is("pass without all", yard.pass(1), 1);
        due.says("objects are apart from one another");
        GasYard other = new GasYard();
        other.bank(1, 5, 5);
        other.car(1, 1, 1);
        other.air(7);
        other.slip(7);
        other.price(0, 7);
        other.closed(0, true);
        Due.book(other, "warm 7");
        GasYard third = new GasYard();
        for (int what = 0; what < wants.length; what++) {
            due.is("count(" + what + ")", third.count(what), wants[what]);
        }
        due.is("air", third.air(7), 15);
        due.is("slip", third.slip(7), 2);
        due.is("price", third.price(0, 7), 1);
        due.is("closed", third.closed(0, true), true);
    }

    private static void banksThatAreNotThere() {
        due.says("banks: NONE without it");
        GasYard yard = new GasYard();
        for (int told = 0; told <= 4; told++) {
            for (int what = 0; what <= 5; what++) {
                for (int k : new int[] {-1, told, 4, Integer.MAX_VALUE, Integer.MIN_VALUE}) {
                    due.is("banks(" + k + ", " + what + ") of " + told, yard.banks(k, what), NONE);
                }
            }
            yard.bank(1, 0, 0);
        }
    }

    private static void carsThatAreNotThere() {
        due.says("cars: NONE without it, WARMTH (-1000 without the CAR)");
        for (int told : new int[] {0, 1, 59, 60}) {
            GasYard yard = new GasYard();
            for (int k = 0; k < told; k++) {
                yard.car(1, 0, 1);
            }
            for (int what = -1; what <= 8; what++) {
                for (int k : new int[] {-1, told, 60, Integer.MAX_VALUE, Integer.MIN_VALUE}) {
                    due.is("cars(" + k + ", " + what + ") of " + told, yard.cars(k, what), what == 3 ? -1000 : NONE);
                }
            }
        }
    }

    private static void anotherWhat() {
        GasYard yard = new GasYard();
        yard.bank(2, 11, 3);
        yard.car(2, 11, 9);
        for (int what : FAR) {
            due.says("NONE for another what, below");
            due.is("banks(0, " + what + ")", yard.banks(0, what), NONE);
            due.is("cars(0, " + what + ")", yard.cars(0, what), NONE);
            due.is("count(" + what + ")", yard.count(what), NONE);
        }
        for (int above : new int[] {0, 1, 2, 1000, Integer.MAX_VALUE - 15}) {
            due.says("NONE for another what, above");
            due.is("banks(0, " + (6 + above) + ")", yard.banks(0, 6 + above), NONE);
            due.is("cars(0, " + (8 + above) + ")", yard.cars(0, 8 + above), NONE);
            due.is("count(" + (15 + above) + ")", yard.count(15 + above), NONE);
        }
    }

    private static void aCarInEachState() {
        due.says("cars: 0 in line; NONE: not at a HOSE, not come to one, not gone");
        GasYard yard = Due.under("press 0;flow 0 7;warm 10;cool 100");
        yard.bank(100, 40000, 0);
        yard.pass(3);
        yard.car(2, 5, 9);
        due.carsAre(yard, 0, 0, 5, 2, 150, NONE, NONE, NONE, 0);
        due.says("cars: 1 at a HOSE");
        yard.pass(1);
        due.carsAre(yard, 0, 1, 12, 6, 185, 0, 3, NONE, 7);
        due.says("cars: 2 FULL");
        yard.pass(1);
        due.carsAre(yard, 0, 1, 18, 9, 215, 0, 3, NONE, 13);
        yard.pass(1);
        due.carsAre(yard, 0, 2, 18, 9, 215, NONE, 3, 5, 13);
        due.says("cars: 3 SHORT");
        yard.sensor(0, 0, true);
        yard.car(2, 5, 9);
        yard.pass(1);
        due.carsAre(yard, 1, 3, 5, 2, 150, NONE, 6, 6, 0);
        due.says("cars: 4 SAFE");
        yard.car(2, 6, 9);
        yard.sensor(1, 2, true);
        due.carsAre(yard, 2, 0, 6, 3, 150, NONE, NONE, NONE, 0);
        yard.pass(1);
        due.carsAre(yard, 2, 4, 6, 3, 150, NONE, 7, 7, 0);
        due.says("a CAR that went stays as it went");
        yard.air(50);
        yard.sensor(0, 0, false);
        yard.pass(100);
        due.carsAre(yard, 0, 2, 18, 9, 215, NONE, 3, 5, 13);
        due.carsAre(yard, 1, 3, 5, 2, 150, NONE, 6, 6, 0);
        due.carsAre(yard, 2, 4, 6, 3, 150, NONE, 7, 7, 0);
    }

    private static void aBankInEachState() {
        due.says("banks: CONTENT, PRESSURE, TARGET, units drawn, PRESSED, SENSOR");
        GasYard yard = Due.under("press 3;flow 0 7;warm 0");
        yard.bank(2, 201, 99);
        due.banksAre(yard, 0, 201, 100, 99, 0, 0, 0);
        yard.car(1, 0, 300);
        yard.pass(1);
        due.banksAre(yard, 0, 197, 98, 99, 7, 3, 0);
        yard.sensor(0, 0, true);
        due.banksAre(yard, 0, 197, 98, 99, 7, 3, 1);
        yard.pass(1);
        due.banksAre(yard, 0, 197, 98, 99, 7, 3, 1);
        yard.sensor(0, 0, false);
        yard.target(0, 400);
        yard.reading(0, 0);
        yard.pass(1);
        due.banksAre(yard, 0, 3, 1, 400, 7, 6, 0);
    }

    private static void warmthIsNoRefusal() {
        due.says("WARMTH may be -1, which is no refusal");
        GasYard yard = Due.under("cool 100");
        yard.air(0);
        yard.bank(100, 40000, 0);
        yard.car(20, 0, 300);
        yard.car(20, 0, 300);
        yard.air(-10);
        yard.pass(1);
        due.is("WARMTH", yard.cars(1, 3), -1);
    }

    private static void countsOfCars() {
        due.says("count: CARS, those in line");
        GasYard yard = new GasYard();
        yard.bank(100, 40000, 0);
        yard.hoses(2);
        for (int k = 0; k < 4; k++) {
            yard.car(1, 0, 20);
            due.is("CARS", yard.count(2), k + 1);
            due.is("in line", yard.count(3), k + 1);
        }
        int[] inLine = {2, 2, 0, 0, 0};
        for (int k = 0; k < inLine.length; k++) {
            yard.pass(1);
            due.is("CARS", yard.count(2), 4);
            due.is("in line behind TICK " + k, yard.count(3), inLine[k]);
        }
    }
}
