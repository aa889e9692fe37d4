/** Promises 17 (best) and 18 (bestOf). */
public final class BestTest {
    private static final Due due = new Due();

    public static void main(String[] args) {
        wrongAsks();
        oneBank();
        lowBanksFirst();
        spareTheGreatest();
        zeroIsLet();
        warmthAndAir();
        lostBanks();
        nothingHappens();
        due.end();
    }

    private static void rowIs(GasYard yard, int... wants) {
        for (int k = 0; k < wants.length / 2; k++) {
            due.is("bestOf(" + k + ", 0)", yard.bestOf(k, 0), wants[2 * k]);
            due.is("bestOf(" + k + ", 1)", yard.bestOf(k, 1), wants[2 * k + 1]);
        }
        due.is("bestOf behind the row", yard.bestOf(wants.length / 2, 0), GasYard.NONE);
    }

    private static void wrongAsks() {
        GasYard yard = new GasYard();
        due.is("no banks", yard.best(1, 0, 1, 1), GasYard.NONE);
        yard.bank(1, 100, 0);
        int[][] wrong = {
            {0, 0, 1, 1}, {21, 0, 1, 1}, {1, -1, 1, 1}, {1, 2, 1, 1}, {1, 0, 0, 1}, {1, 0, 301, 1},
            {1, 0, 1, 0}, {1, 0, 1, 7}, {Integer.MAX_VALUE, 0, 1, 1}, {1, 0, Integer.MAX_VALUE, 1},
            {1, 0, 1, Integer.MAX_VALUE}, {1, 0, 1, Integer.MIN_VALUE},
        };
        for (int[] ask : wrong) {
            due.is("wrong best", yard.best(ask[0], ask[1], ask[2], ask[3]), GasYard.NONE);
        }
        rowIs(yard);
        due.is("greatest car", yard.best(20, 6000, 300, 6), 6000);
        rowIs(yard, 0, 0, 0, 0, 0, 0, 0, 0, 0, 0, 0, 0);
        yard.best(0, 0, 0, 0);
        rowIs(yard, 0, 0, 0, 0, 0, 0, 0, 0, 0, 0, 0, 0);
        for (int k : new int[] {-1, 6, Integer.MIN_VALUE, Integer.MAX_VALUE}) {
            due.is("bestOf(" + k + ", 0)", yard.bestOf(k, 0), GasYard.NONE);
        }
        for (int what : new int[] {-1, 2, Integer.MIN_VALUE, Integer.MAX_VALUE}) {
            due.is("bestOf(0, " + what + ")", yard.bestOf(0, what), GasYard.NONE);
        }
    }

    private static void oneBank() {
        GasYard yard = new GasYard();
        yard.bank(1, 100, 0);
        Due.book(yard, "warm 0;switch 500");
        due.is("three ticks", yard.best(1, 0, 300, 3), 50);
        rowIs(yard, 0, 20, 0, 20, 0, 10);
        due.is("one tick", yard.best(1, 0, 300, 1), 20);
        rowIs(yard, 0, 20);
        due.is("up to max", yard.best(1, 0, 25, 3), 25);
        rowIs(yard, 0, 20, 0, 5, 0, 0);
    }

    private static void lowBanksFirst() {
        GasYard yard = new GasYard();
        Due.book(yard, "warm 0;flow 0 500");
        yard.bank(1, 100, 0);
        yard.bank(1, 200, 0);
        due.is("the low one, then the high one", yard.best(1, 0, 300, 2), 125);
        rowIs(yard, 0, 50, 1, 75);
        due.is("the high one alone", yard.best(1, 0, 300, 1), 100);
        rowIs(yard, 1, 100);
    }

    private static void spareTheGreatest() {
        GasYard yard = new GasYard();
        Due.book(yard, "warm 0;flow 0 10");
        yard.bank(1, 400, 0);
        yard.bank(1, 400, 0);
        yard.bank(1, 15, 0);
        due.is("all the same", yard.best(1, 0, 300, 3), 30);
        rowIs(yard, 0, 10, 0, 10, 0, 10);
        GasYard other = new GasYard();
        Due.book(other, "warm 0;flow 0 10");
        other.bank(1, 12, 0);
        other.bank(1, 400, 0);
        due.is("bank 0 gives 6 first", other.best(1, 0, 16, 2), 16);
        rowIs(other, 0, 6, 1, 10);
        due.is("as much from 0 as can be", other.best(1, 0, 14, 2), 14);
        rowIs(other, 0, 6, 1, 8);
    }

    private static void zeroIsLet() {
        GasYard yard = new GasYard();
        yard.bank(1, 10, 0);
        yard.bank(1, 20, 0);
        due.is("no bank is higher", yard.best(1, 20, 300, 2), 20);
        rowIs(yard, 0, 0, 0, 0);
    }

    private static void warmthAndAir() {
        GasYard yard = new GasYard();
        Due.book(yard, "warm 10;flow 0 100;limit 20;cool 2");
        yard.bank(100, 40000, 0);
        // 150 + 50 up to the limit, less 25; then 20 / 10 ..: 25 / 10 = 2; 195, less 22: 173; 27 / 10 = 2
        due.is("warmth", yard.best(1, 0, 300, 3), 9);
        rowIs(yard, 0, 5, 0, 2, 0, 2);
        yard.air(20);
        due.is("as warm as the limit", yard.best(1, 0, 300, 3), 0);
        yard.air(-30);
        due.is("cold air", yard.best(1, 0, 300, 1), 50);
        yard.air(50);
        due.is("above the limit", yard.best(1, 0, 300, 6), 0);
        rowIs(yard, 0, 0, 0, 0, 0, 0, 0, 0, 0, 0, 0, 0);
    }

    private static void lostBanks() {
        GasYard yard = new GasYard();
        yard.bank(1, 100, 0);
        yard.bank(1, 50, 0);
        yard.sensor(0, 0, true);
        due.is("bank 1 alone", yard.best(1, 0, 300, 2), 25);
        rowIs(yard, 1, 20, 1, 5);
        yard.sensor(0, 1, true);
        due.is("none", yard.best(1, 0, 300, 2), GasYard.NONE);
        rowIs(yard, 1, 20, 1, 5);
    }

    private static void nothingHappens() {
        GasYard yard = new GasYard();
        yard.bank(10, 1000, 400);
        yard.best(1, 0, 300, 6);
        due.banksAre(yard, 0, 1000, 100, 400, 0, 0, 0);
        due.is("no car", yard.count(2), 0);
        due.is("no tick", yard.count(0), 0);
        due.is("all gas", yard.count(8), 1000);
    }
}
