import java.util.ArrayList;
import java.util.List;

/**
 * "NONE, and nothing happens": a busy yard is made anew for each refused call; with that call or without
 * it, all that can be asked of the yard, and all that happens with it then, is the same.
 */
public final class EdgeRefusedTest {
    private static final Due due = new Due();
    private static final int NONE = GasYard.NONE;
    private static final int[] FAR = {Integer.MIN_VALUE, -1000, -1};

    /** A call on a yard; what it answers, a boolean as 1 or 0. */
    private interface Call {
        long on(GasYard yard);
    }

    private static List<Long> untouched;

    public static void main(String[] args) {
        untouched = story(busyYard());
        due.is("the story is the same each time", story(busyYard()).equals(untouched), true);
        banks();
        targets();
        airs();
        hoses();
        tapes();
        differences();
        prices();
        closedHours();
        sensors();
        cars();
        passes();
        passesBeyond();
        readings();
        slips();
        bests();
        questions();
        due.end();
    }

    /** Three BANKS (one lost), CARS in every state, a TAPE, a row of BEST, and prices of its own. */
    private static GasYard busyYard() {
        GasYard yard = Due.under("flow 1 6;flow 40 25;warm 7;cool 6;limit 60;press 11;switch 2");
        yard.bank(10, 1234, 150);
        yard.bank(4, 1200, 310);
        yard.bank(7, 2001, 300);
        yard.hoses(2);
        yard.air(22);
        yard.slip(3);
        for (int hour = 0; hour < 24; hour++) {
            yard.price(hour, 2 * hour + 3);
        }
        yard.closed(3, true);
        yard.closed(23, true);
        yard.car(2, 30, 16);
        yard.car(5, 0, 200);
        yard.car(1, 20, 90);
        yard.sensor(1, 2, true);
        yard.car(4, 10, 250);
        yard.pass(5);
        yard.sensor(0, 2, true);
        yard.car(6, 12, 280);
        yard.car(3, 0, 1);
        yard.best(5, 20, 200, 4);
        yard.feed(0x7761726D, 0x20333B63, 0x6F6F6C20, 0x343B7072, 0x65737320);
        yard.feed(0x31323B6C, 0x696D6974, 0x20373000, 0, 0);
        yard.end(31);
        return yard;
    }

    /** All answers of a yard, and those of what happens with it then: far below 512 calls. */
    private static List<Long> story(GasYard yard) {
        List<Long> told = new ArrayList<>();
        state(yard, told);
        told.add((long) yard.pass(2));
        told.add((long) yard.best(3, 9, 120, 5));
        state(yard, told);
        told.add((long) yard.book());
        told.add((long) yard.air(5));
        told.add((long) yard.slip(0));
        told.add((long) yard.reading(0, 100));
        told.add((long) yard.car(2, 2, 2));
        told.add((long) yard.bank(3, 33, 44));
        told.add((long) yard.bank(3, 33, 44));
        told.add((long) yard.pass(60));
        told.add((long) yard.hoses(1));
        told.add((long) yard.hoses(2));
        for (int hour = 0; hour < 24; hour++) {
            told.add((long) yard.price(hour, 1));
            told.add(yard.closed(hour, true) ? 1L : 0L);
        }
        for (int k = 0; k < 7; k++) {
            told.add(yard.sensor(1, k, true) ? 1L : 0L);
        }
        told.add((long) yard.pass(500));
        state(yard, told);
        return told;
    }

    private static void state(GasYard yard, List<Long> told) {
        for (int what = 0; what <= 14; what++) {
            told.add((long) yard.count(what));
        }
        for (int k = 0; k < 4; k++) {
            for (int what = 0; what <= 5; what++) {
                told.add((long) yard.banks(k, what));
            }
        }
        for (int k = 0; k < 7; k++) {
            for (int what = 0; what <= 7; what++) {
                told.add((long) yard.cars(k, what));
            }
        }
        for (int k = 0; k < 6; k++) {
            told.add((long) yard.bestOf(k, 0));
            told.add((long) yard.bestOf(k, 1));
        }
        for (int difference : new int[] {-1, 0, 1, 39, 40, 400}) {
            told.add((long) yard.flow(difference));
        }
    }

    private static void refused(String name, Call call, long answer) {
        GasYard yard = busyYard();
        due.is(name, call.on(yard), answer);
        due.is(name + ": nothing happened", story(yard).equals(untouched), true);
    }

    private static void banks() {
        due.says("bank: NONE: something is not as told");
        int[][] wrong = {{0, 0, 0}, {-1, 0, 0}, {101, 0, 0}, {1, -1, 0}, {1, 401, 0}, {100, 40001, 0}, {1, 0, -1},
            {1, 0, 401}, {Integer.MAX_VALUE, 1, 1}, {Integer.MIN_VALUE, 1, 1}, {1, Integer.MAX_VALUE, 1}};
        for (int[] w : wrong) {
            refused("bank(" + w[0] + ", " + w[1] + ", " + w[2] + ")", y -> y.bank(w[0], w[1], w[2]), NONE);
        }
        due.says("bank: NONE: there are 4");
        GasYard yard = new GasYard();
        for (int k = 0; k < 4; k++) {
            yard.bank(1, k, 10 * k);
        }
        due.is("a fifth", yard.bank(9, 99, 99), NONE);
        for (int k = 0; k < 4; k++) {
            due.banksAre(yard, k, k, k, 10 * k, 0, 0, 0);
        }
        due.is("ALL GAS", yard.count(8), 6);
        due.is("BANKS", yard.count(1), 4);
    }

    private static void targets() {
        due.says("target: NONE, and nothing happens, for others");
        for (int pressure : new int[] {Integer.MIN_VALUE, -1, 401, Integer.MAX_VALUE}) {
            for (int bank = 0; bank < 3; bank++) {
                int k = bank;
                refused("target(" + k + ", " + pressure + ")", y -> y.target(k, pressure), NONE);
            }
        }
        for (int bank : new int[] {Integer.MIN_VALUE, -1, 3, 4, Integer.MAX_VALUE}) {
            refused("target(" + bank + ", 9)", y -> y.target(bank, 9), NONE);
        }
    }

    private static void airs() {
        due.says("air: -100, and nothing happens, for others");
        for (int degrees : new int[] {Integer.MIN_VALUE, -100, -31, 51, Integer.MAX_VALUE}) {
            refused("air(" + degrees + ")", y -> y.air(degrees), -100);
        }
    }

    private static void hoses() {
        due.says("hoses: NONE, and nothing happens, for others");
        for (int n : new int[] {Integer.MIN_VALUE, -1, 0, 3, Integer.MAX_VALUE}) {
            refused("hoses(" + n + ")", y -> y.hoses(n), NONE);
        }
        due.says("hoses: NONE, and nothing happens, if a CAR is at one that would go");
        due.is("two CARS are at HOSES", busyYard().cars(1, 0) * 10 + busyYard().cars(3, 0), 11);
        refused("hoses(1)", y -> y.hoses(1), NONE);
    }

    private static void tapes() {
        due.says("end: NONE, and nothing happens");
        for (int n : new int[] {Integer.MIN_VALUE, -1, 32, 40, 200, 201, Integer.MAX_VALUE}) {
            refused("end(" + n + ")", y -> y.end(n), NONE);
        }
        due.says("feed: NONE, and none comes");
        GasYard yard = new GasYard();
        Due.feed(yard, "warm 3;" + " ".repeat(174));
        due.is("181 bytes", yard.count(9), 181);
        due.is("feed", yard.feed(0x3B3B3B3B, 0x3B3B3B3B, 0x3B3B3B3B, 0x3B3B3B3B, 0x3B3B3B3B), NONE);
        due.is("181 bytes still", yard.count(9), 181);
        due.is("and the end behind them", yard.book(), -2 - (1 + 8 * 181));
    }

    private static void differences() {
        due.says("flow: NONE for one not -400 to 400");
        for (int difference : new int[] {Integer.MIN_VALUE, -401, 401, Integer.MAX_VALUE}) {
            refused("flow(" + difference + ")", y -> y.flow(difference), NONE);
        }
    }

    private static void prices() {
        due.says("price: NONE, and nothing happens, for others");
        for (int hour : new int[] {Integer.MIN_VALUE, -1, 24, Integer.MAX_VALUE}) {
            refused("price(" + hour + ", 50)", y -> y.price(hour, 50), NONE);
        }
        for (int coins : new int[] {Integer.MIN_VALUE, -1, 100, Integer.MAX_VALUE}) {
            refused("price(0, " + coins + ")", y -> y.price(0, coins), NONE);
            refused("price(23, " + coins + ")", y -> y.price(23, coins), NONE);
        }
    }

    private static void closedHours() {
        due.says("closed: False without it, or if it changed nothing");
        for (int hour : new int[] {Integer.MIN_VALUE, -1, 24, Integer.MAX_VALUE}) {
            refused("closed(" + hour + ", true)", y -> y.closed(hour, true) ? 1 : 0, 0);
            refused("closed(" + hour + ", false)", y -> y.closed(hour, false) ? 1 : 0, 0);
        }
        refused("closed(3, true)", y -> y.closed(3, true) ? 1 : 0, 0);
        refused("closed(23, true)", y -> y.closed(23, true) ? 1 : 0, 0);
        refused("closed(0, false)", y -> y.closed(0, false) ? 1 : 0, 0);
    }

    private static void sensors() {
        due.says("sensor: False without these, or if it changed nothing");
        int[][] without = {{0, 3}, {0, 4}, {0, -1}, {1, 6}, {1, 60}, {1, -1}, {2, 0}, {-1, 0},
            {0, Integer.MAX_VALUE}, {1, Integer.MAX_VALUE}, {1, Integer.MIN_VALUE}, {Integer.MAX_VALUE, 0}};
        for (int[] w : without) {
            refused("sensor(" + w[0] + ", " + w[1] + ", true)", y -> y.sensor(w[0], w[1], true) ? 1 : 0, 0);
            refused("sensor(" + w[0] + ", " + w[1] + ", false)", y -> y.sensor(w[0], w[1], false) ? 1 : 0, 0);
        }
        refused("BANK 2, lost already", y -> y.sensor(0, 2, true) ? 1 : 0, 0);
        refused("BANK 0, not lost", y -> y.sensor(0, 0, false) ? 1 : 0, 0);
        refused("CAR 4, not lost", y -> y.sensor(1, 4, false) ? 1 : 0, 0);
        due.says("sensor: False for CARS that went");
        due.is("CAR 0 went FULL", busyYard().cars(0, 0), 2);
        due.is("CAR 2 went SAFE", busyYard().cars(2, 0), 4);
        refused("CAR 0", y -> y.sensor(1, 0, true) ? 1 : 0, 0);
        refused("CAR 2", y -> y.sensor(1, 2, false) ? 1 : 0, 0);
    }

    private static void cars() {
        due.says("car: NONE: something is not as told");
        int[][] wrong = {{0, 0, 1}, {-1, 0, 1}, {21, 0, 1}, {1, -1, 1}, {1, 2, 1}, {20, 6001, 300}, {1, 0, 0},
            {1, 0, -1}, {1, 0, 301}, {Integer.MAX_VALUE, 1, 1}, {1, Integer.MAX_VALUE, 1}, {1, 1, Integer.MAX_VALUE}};
        for (int[] w : wrong) {
            refused("car(" + w[0] + ", " + w[1] + ", " + w[2] + ")", y -> y.car(w[0], w[1], w[2]), NONE);
        }
        due.says("car: NONE: there are 60");
        GasYard yard = new GasYard();
        for (int k = 0; k < 60; k++) {
            yard.car(1, 1, 1);
        }
        due.is("a 61st", yard.car(1, 1, 1), NONE);
        due.is("ALL GAS", yard.count(8), 60);
        due.is("CARS", yard.count(2), 60);
        due.is("in line", yard.count(3), 60);
    }

    private static void passes() {
        due.says("pass: NONE, and nothing happens, for others");
        for (int ticks : new int[] {Integer.MIN_VALUE, -1, 0, 501, 9999, Integer.MAX_VALUE}) {
            refused("pass(" + ticks + ")", y -> y.pass(ticks), NONE);
        }
    }

    private static void passesBeyond() {
        due.says("pass: NONE, and nothing happens, beyond 9999");
        GasYard yard = new GasYard();
        yard.bank(100, 0, 400);
        yard.closed(22, true);
        for (int k = 0; k < 19; k++) {
            yard.pass(500);
        }
        yard.pass(490);
        yard.reading(0, 0);
        yard.closed(22, false);
        yard.car(1, 0, 1);
        int pressed = yard.count(4);
        for (int ticks : new int[] {10, 11, 500}) {
            due.is("pass(" + ticks + ") from 9990", yard.pass(ticks), NONE);
            due.is("NOW", yard.count(0), 9990);
            due.is("PRESSED", yard.count(4), pressed);
            due.is("the CAR is in line", yard.cars(0, 0), 0);
        }
        due.is("pass(9)", yard.pass(9), 9999);
        due.is("PRESSED", yard.count(4), pressed + 9 * 20);
    }

    private static void readings() {
        due.says("reading: -1000000 without the BANK, or another PRESSURE");
        for (int bank : new int[] {Integer.MIN_VALUE, -1, 3, 4, Integer.MAX_VALUE}) {
            refused("reading(" + bank + ", 9)", y -> y.reading(bank, 9), -1000000);
        }
        for (int pressure : new int[] {Integer.MIN_VALUE, -1, 401, Integer.MAX_VALUE}) {
            refused("reading(0, " + pressure + ")", y -> y.reading(0, pressure), -1000000);
        }
        due.says("reading: else nothing; 0: neither");
        for (int by = -3; by <= 3; by++) {
            int pressure = busyYard().banks(0, 1) + by;
            refused("reading(0, " + pressure + "), " + by + " by SLIP 3", y -> y.reading(0, pressure), 0);
        }
    }

    private static void slips() {
        due.says("slip: NONE, and nothing happens, for others");
        for (int pressure : new int[] {Integer.MIN_VALUE, -1, 51, Integer.MAX_VALUE}) {
            refused("slip(" + pressure + ")", y -> y.slip(pressure), NONE);
        }
    }

    private static void bests() {
        due.says("best: NONE, and nothing happens: something is not as told");
        int[][] wrong = {{0, 0, 1, 1}, {21, 0, 1, 1}, {1, -1, 1, 1}, {1, 2, 1, 1}, {1, 0, 0, 1}, {1, 0, 301, 1},
            {1, 0, 1, 0}, {1, 0, 1, 7}, {1, 0, 1, -1}, {1, 0, 1, Integer.MAX_VALUE}, {1, 0, Integer.MAX_VALUE, 1},
            {Integer.MIN_VALUE, 0, 1, 1}};
        for (int[] w : wrong) {
            refused("best(" + w[0] + ", " + w[1] + ", " + w[2] + ", " + w[3] + ")",
                    y -> y.best(w[0], w[1], w[2], w[3]), NONE);
        }
        due.says("best: NONE, and nothing happens: no BANKS with SENSORS");
        refused("all lost and found again", y -> {
            y.sensor(0, 0, true);
            y.sensor(0, 1, true);
            int answer = y.best(1, 0, 1, 1);
            y.sensor(0, 0, false);
            y.sensor(0, 1, false);
            return answer;
        }, NONE);
    }

    private static void questions() {
        due.says("NONE without it, or for another what");
        for (int k : FAR) {
            refused("banks(" + k + ", 0)", y -> y.banks(k, 0), NONE);
            refused("banks(0, " + k + ")", y -> y.banks(0, k), NONE);
            refused("cars(" + k + ", 0)", y -> y.cars(k, 0), NONE);
            refused("cars(" + k + ", 3)", y -> y.cars(k, 3), -1000);
            refused("cars(0, " + k + ")", y -> y.cars(0, k), NONE);
            refused("bestOf(" + k + ", 0)", y -> y.bestOf(k, 0), NONE);
            refused("bestOf(0, " + k + ")", y -> y.bestOf(0, k), NONE);
            refused("count(" + k + ")", y -> y.count(k), NONE);
        }
    }
}
