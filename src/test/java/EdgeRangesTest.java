/**
 * Every range of "Terms" I to IV, from both of its ends: the ends are taken, what is one beyond them or
 * farthest away is refused. That nothing happens on a refusal is the task of EdgeRefusedTest.
 */
public final class EdgeRangesTest {
    private static final Due due = new Due();
    private static final int LEAST = Integer.MIN_VALUE;
    private static final int MOST = Integer.MAX_VALUE;

    public static void main(String[] args) {
        ticks();
        ticksOfOnePass();
        bankNumbers();
        bankVolumes();
        bankContents();
        bankTargets();
        targetsLater();
        pressuresOfBanks();
        pressuresOfCars();
        airs();
        carNumbers();
        carVolumes();
        carContents();
        carMaxes();
        carWarmth();
        hoses();
        hoursAndPrices();
        closedHours();
        readings();
        slips();
        ticksOfBest();
        carsOfBest();
        flows();
        due.end();
    }

    private static void ticks() {
        due.says("TICKS 0 to 9999; NOW (0 at first)");
        GasYard yard = new GasYard();
        due.is("NOW at first", yard.count(0), 0);
        for (int k = 1; k <= 19; k++) {
            yard.pass(500);
        }
        due.is("up to 9999 and one more", yard.pass(500), GasYard.NONE);
        due.is("up to 9998", yard.pass(498), 9998);
        due.is("two TICKS more", yard.pass(2), GasYard.NONE);
        due.is("one TICK more", yard.pass(1), 9999);
        due.is("NOW", yard.count(0), 9999);
        due.is("one beyond", yard.pass(1), GasYard.NONE);
        due.is("500 beyond", yard.pass(500), GasYard.NONE);
        due.is("NOW stays", yard.count(0), 9999);
    }

    private static void ticksOfOnePass() {
        due.says("So many TICKS (1 to 500) go by");
        for (int ticks : new int[] {LEAST, -1, 0, 501, MOST}) {
            GasYard yard = new GasYard();
            due.is("pass(" + ticks + ")", yard.pass(ticks), GasYard.NONE);
            due.is("NOW", yard.count(0), 0);
        }
        for (int ticks : new int[] {1, 2, 499, 500}) {
            GasYard yard = new GasYard();
            due.is("pass(" + ticks + ")", yard.pass(ticks), ticks);
            due.is("NOW", yard.count(0), ticks);
        }
    }

    private static void bankNumbers() {
        due.says("BANKS 0 to 3 as they are told");
        GasYard yard = new GasYard();
        for (int k = 0; k < 4; k++) {
            due.is("BANKS ahead", yard.count(1), k);
            due.is("not yet told", yard.banks(k, 0), GasYard.NONE);
            due.is("bank", yard.bank(1, 10 + k, 0), k);
            due.is("its CONTENT", yard.banks(k, 0), 10 + k);
        }
        due.is("a fifth", yard.bank(1, 14, 0), GasYard.NONE);
        due.is("BANKS", yard.count(1), 4);
        due.is("BANK 4", yard.banks(4, 0), GasYard.NONE);
        due.is("BANK -1", yard.banks(-1, 0), GasYard.NONE);
        due.is("ALL GAS", yard.count(8), 10 + 11 + 12 + 13);
    }

    private static void bankVolumes() {
        due.says("BANK: VOLUME (1 to 100)");
        for (int volume : new int[] {LEAST, -1, 0, 101, MOST}) {
            due.is("bank(" + volume + ", 0, 0)", new GasYard().bank(volume, 0, 0), GasYard.NONE);
        }
        // volumes whose VOLUME * 400 wraps around to a great number
        for (int volume : new int[] {5368709 + 1, -5368710, 1 << 24}) {
            due.is("bank(" + volume + ", 400, 0)", new GasYard().bank(volume, 400, 0), GasYard.NONE);
        }
        for (int volume : new int[] {1, 2, 99, 100}) {
            due.is("bank(" + volume + ", 0, 0)", new GasYard().bank(volume, 0, 0), 0);
        }
    }

    private static void bankContents() {
        due.says("BANK: CONTENT (units, 0 to VOLUME * 400)");
        for (int volume : new int[] {1, 2, 50, 99, 100}) {
            for (int content : new int[] {LEAST, -1, volume * 400 + 1, MOST}) {
                due.is("bank(" + volume + ", " + content + ", 0)",
                        new GasYard().bank(volume, content, 0), GasYard.NONE);
            }
            for (int content : new int[] {0, 1, volume * 400 - 1, volume * 400}) {
                GasYard yard = new GasYard();
                due.is("bank(" + volume + ", " + content + ", 0)", yard.bank(volume, content, 0), 0);
                due.is("CONTENT", yard.banks(0, 0), content);
                due.is("ALL GAS", yard.count(8), content);
            }
        }
    }

    private static void bankTargets() {
        due.says("BANK: TARGET (0 to 400)");
        for (int target : new int[] {LEAST, -1, 401, MOST}) {
            due.is("bank(1, 0, " + target + ")", new GasYard().bank(1, 0, target), GasYard.NONE);
        }
        for (int target : new int[] {0, 1, 399, 400}) {
            GasYard yard = new GasYard();
            due.is("bank(1, 0, " + target + ")", yard.bank(1, 0, target), 0);
            due.is("TARGET", yard.banks(0, 2), target);
        }
    }

    private static void targetsLater() {
        due.says("target: TARGET of a BANK: what it was; NONE for others");
        GasYard yard = new GasYard();
        due.is("no BANK yet", yard.target(0, 0), GasYard.NONE);
        yard.bank(1, 0, 7);
        int was = 7;
        for (int target : new int[] {0, 400, 1, 399}) {
            due.is("target(0, " + target + ")", yard.target(0, target), was);
            due.is("TARGET", yard.banks(0, 2), target);
            was = target;
        }
        for (int target : new int[] {LEAST, -1, 401, MOST}) {
            due.is("target(0, " + target + ")", yard.target(0, target), GasYard.NONE);
        }
        for (int bank : new int[] {LEAST, -1, 1, 3, 4, MOST}) {
            due.is("target(" + bank + ", 5)", yard.target(bank, 5), GasYard.NONE);
        }
        due.is("TARGET stays", yard.banks(0, 2), 399);
    }

    private static void pressuresOfBanks() {
        due.says("PRESSURE of a BANK: CONTENT by VOLUME, downwards");
        int[][] told = {{1, 0, 0}, {1, 400, 400}, {3, 2, 0}, {3, 3, 1}, {3, 5, 1}, {100, 99, 0}, {100, 100, 1},
            {100, 39999, 399}, {100, 40000, 400}};
        for (int[] bank : told) {
            GasYard yard = new GasYard();
            yard.bank(bank[0], bank[1], 0);
            due.is("PRESSURE of " + bank[1] + " by " + bank[0], yard.banks(0, 1), bank[2]);
        }
    }

    private static void pressuresOfCars() {
        due.says("PRESSURE of a CAR: CONTENT by VOLUME, downwards");
        int[][] told = {{1, 0, 0}, {1, 300, 300}, {3, 2, 0}, {3, 3, 1}, {3, 5, 1}, {20, 19, 0}, {20, 20, 1},
            {20, 5999, 299}, {20, 6000, 300}};
        for (int[] car : told) {
            GasYard yard = new GasYard();
            yard.car(car[0], car[1], 300);
            due.is("PRESSURE of " + car[1] + " by " + car[0], yard.cars(0, 2), car[2]);
        }
    }

    private static void airs() {
        due.says("AIR: degrees (-30 to 50; 15 at first)");
        GasYard yard = new GasYard();
        int was = 15;
        for (int degrees : new int[] {-30, 50, -29, 49, 0}) {
            due.is("air(" + degrees + ")", yard.air(degrees), was);
            was = degrees;
        }
        for (int degrees : new int[] {LEAST, -100, -31, 51, MOST}) {
            due.is("air(" + degrees + ")", yard.air(degrees), -100);
        }
        due.is("AIR stays", yard.air(1), 0);
        due.says("air: what it was, also -1, which is no refusal");
        due.is("air(-1)", yard.air(-1), 1);
        due.is("air(2)", yard.air(2), -1);
    }

    private static void carNumbers() {
        due.says("CARS 0 to 59");
        GasYard yard = new GasYard();
        for (int k = 0; k < 60; k++) {
            due.is("CARS ahead", yard.count(2), k);
            due.is("car", yard.car(1, k, 59 + k), k);
        }
        due.is("a 61st", yard.car(1, 0, 1), GasYard.NONE);
        due.is("CARS", yard.count(2), 60);
        due.is("in line", yard.count(3), 60);
        due.is("CONTENT of CAR 0", yard.cars(0, 1), 0);
        due.is("CONTENT of CAR 59", yard.cars(59, 1), 59);
        due.is("CAR 60", yard.cars(60, 1), GasYard.NONE);
        due.is("CAR -1", yard.cars(-1, 1), GasYard.NONE);
        due.is("the SENSOR of CAR 59", yard.sensor(1, 59, true), true);
        due.is("the SENSOR of CAR 60", yard.sensor(1, 60, true), false);
        yard.pass(500);
        due.is("none in line", yard.count(3), 0);
        due.is("a 61st when all went", yard.car(1, 0, 1), GasYard.NONE);
        due.is("CARS that went count", yard.count(2), 60);
    }

    private static void carVolumes() {
        due.says("CAR: VOLUME (1 to 20)");
        for (int volume : new int[] {LEAST, -1, 0, 21, 7158279, 1 << 24, MOST}) {
            due.is("car(" + volume + ", 0, 1)", new GasYard().car(volume, 0, 1), GasYard.NONE);
            due.is("car(" + volume + ", 0, 300)", new GasYard().car(volume, 0, 300), GasYard.NONE);
        }
        for (int volume : new int[] {1, 2, 19, 20}) {
            due.is("car(" + volume + ", 0, 1)", new GasYard().car(volume, 0, 1), 0);
        }
    }

    private static void carContents() {
        due.says("CAR: CONTENT (0 to VOLUME * MAX)");
        int[][] told = {{1, 1}, {1, 300}, {3, 7}, {20, 1}, {20, 299}, {20, 300}};
        for (int[] car : told) {
            int top = car[0] * car[1];
            for (int content : new int[] {LEAST, -1, top + 1, MOST}) {
                due.is("car(" + car[0] + ", " + content + ", " + car[1] + ")",
                        new GasYard().car(car[0], content, car[1]), GasYard.NONE);
            }
            for (int content : new int[] {0, 1, top - 1, top}) {
                GasYard yard = new GasYard();
                due.is("car(" + car[0] + ", " + content + ", " + car[1] + ")",
                        yard.car(car[0], content, car[1]), 0);
                due.is("CONTENT", yard.cars(0, 1), content);
                due.is("ALL GAS", yard.count(8), content);
            }
        }
    }

    private static void carMaxes() {
        due.says("CAR: MAX (1 to 300, a PRESSURE)");
        for (int max : new int[] {LEAST, -1, 0, 301, 1 << 28, MOST}) {
            due.is("car(20, 0, " + max + ")", new GasYard().car(20, 0, max), GasYard.NONE);
        }
        for (int max : new int[] {1, 2, 299, 300}) {
            due.is("car(20, 0, " + max + ")", new GasYard().car(20, 0, max), 0);
        }
    }

    private static void carWarmth() {
        due.says("WARMTH in tenths of a degree; that of the AIR as they come");
        for (int degrees : new int[] {-30, -1, 0, 1, 50}) {
            GasYard yard = new GasYard();
            yard.air(degrees);
            yard.car(1, 0, 1);
            yard.air(20);
            due.is("WARMTH at " + degrees, yard.cars(0, 3), 10 * degrees);
        }
        GasYard first = new GasYard();
        first.car(1, 0, 1);
        due.is("WARMTH at first", first.cars(0, 3), 150);
    }

    private static void hoses() {
        due.says("HOSES: 1 or 2 (1 at first)");
        GasYard yard = new GasYard();
        due.is("hoses(2)", yard.hoses(2), 1);
        due.is("hoses(1)", yard.hoses(1), 2);
        for (int n : new int[] {LEAST, -1, 0, 3, MOST}) {
            due.is("hoses(" + n + ")", yard.hoses(n), GasYard.NONE);
        }
        due.is("HOSES stay", yard.hoses(1), 1);
    }

    private static void hoursAndPrices() {
        due.says("PRICE of an HOUR (0 to 23): 0 to 99; 1 at first");
        GasYard yard = new GasYard();
        for (int hour = 0; hour < 24; hour++) {
            due.is("price(" + hour + ", 0)", yard.price(hour, 0), 1);
            due.is("price(" + hour + ", 99)", yard.price(hour, 99), 0);
            due.is("price(" + hour + ", hour)", yard.price(hour, hour), 99);
        }
        for (int hour : new int[] {LEAST, -1, 24, MOST}) {
            due.is("price(" + hour + ", 5)", yard.price(hour, 5), GasYard.NONE);
        }
        for (int coins : new int[] {LEAST, -1, 100, MOST}) {
            due.is("price(0, " + coins + ")", yard.price(0, coins), GasYard.NONE);
            due.is("price(23, " + coins + ")", yard.price(23, coins), GasYard.NONE);
        }
        for (int hour = 0; hour < 24; hour++) {
            due.is("PRICE stays", yard.price(hour, 1), hour);
        }
    }

    private static void closedHours() {
        due.says("An HOUR is CLOSED or not: whether that changed anything. False without it");
        GasYard yard = new GasYard();
        for (int hour = 0; hour < 24; hour++) {
            due.is("open at first " + hour, yard.closed(hour, false), false);
            due.is("closed(" + hour + ", true)", yard.closed(hour, true), true);
            due.is("again", yard.closed(hour, true), false);
            due.is("closed(" + hour + ", false)", yard.closed(hour, false), true);
            due.is("again", yard.closed(hour, false), false);
        }
        for (int hour : new int[] {LEAST, -1, 24, MOST}) {
            due.is("closed(" + hour + ", true)", yard.closed(hour, true), false);
            due.is("closed(" + hour + ", false)", yard.closed(hour, false), false);
        }
    }

    private static void readings() {
        due.says("A READING of a BANK's PRESSURE (0 to 400)");
        GasYard yard = new GasYard();
        due.is("without the BANK", yard.reading(0, 0), -1000000);
        yard.bank(100, 20000, 0);
        for (int pressure : new int[] {LEAST, -1, 401, MOST}) {
            due.is("reading(0, " + pressure + ")", yard.reading(0, pressure), -1000000);
        }
        for (int bank : new int[] {LEAST, -1, 1, 4, MOST}) {
            due.is("reading(" + bank + ", 0)", yard.reading(bank, 0), -1000000);
        }
        due.is("reading(0, 400)", yard.reading(0, 400), -20000);
        due.is("reading(0, 0)", yard.reading(0, 0), 40000);
    }

    private static void slips() {
        due.says("SLIP (0 to 50; 2 at first)");
        GasYard yard = new GasYard();
        int was = 2;
        for (int pressure : new int[] {0, 50, 1, 49}) {
            due.is("slip(" + pressure + ")", yard.slip(pressure), was);
            was = pressure;
        }
        for (int pressure : new int[] {LEAST, -1, 51, MOST}) {
            due.is("slip(" + pressure + ")", yard.slip(pressure), GasYard.NONE);
        }
        due.is("SLIP stays", yard.slip(0), 49);
    }

    private static void ticksOfBest() {
        due.says("BEST in n TICKS (1 to 6)");
        GasYard yard = new GasYard();
        yard.bank(100, 40000, 0);
        for (int ticks : new int[] {LEAST, -1, 0, 7, MOST}) {
            due.is("best of " + ticks, yard.best(10, 0, 300, ticks), GasYard.NONE);
            due.is("no row", yard.bestOf(0, 0), GasYard.NONE);
        }
        for (int ticks = 1; ticks <= 6; ticks++) {
            due.is("best of " + ticks, yard.best(10, 0, 300, ticks), 20 * ticks);
            due.is("the last of its row", yard.bestOf(ticks - 1, 1), 20);
            due.is("behind its row", yard.bestOf(ticks, 1), GasYard.NONE);
        }
    }

    private static void carsOfBest() {
        due.says("BEST for a CAR (VOLUME, CONTENT, MAX as told)");
        GasYard yard = new GasYard();
        yard.bank(1, 0, 0);
        int[][] wrong = {{LEAST, 0, 1}, {-1, 0, 1}, {0, 0, 1}, {21, 0, 1}, {MOST, 0, 1}, {1, LEAST, 1}, {1, -1, 1},
            {1, 2, 1}, {20, 6001, 300}, {1, MOST, 1}, {1, 0, LEAST}, {1, 0, -1}, {1, 0, 0}, {1, 0, 301}, {1, 0, MOST}};
        for (int[] car : wrong) {
            due.is("best(" + car[0] + ", " + car[1] + ", " + car[2] + ", 1)",
                    yard.best(car[0], car[1], car[2], 1), GasYard.NONE);
        }
        int[][] good = {{1, 0, 1}, {20, 0, 1}, {1, 1, 1}, {20, 20, 1}, {1, 0, 300}, {1, 300, 300}, {20, 6000, 300}};
        for (int[] car : good) {
            due.is("best(" + car[0] + ", " + car[1] + ", " + car[2] + ", 1)",
                    yard.best(car[0], car[1], car[2], 1), car[1]);
        }
    }

    private static void flows() {
        due.says("FLOW at a difference; NONE for one not -400 to 400");
        GasYard yard = Due.under("flow 0 7;flow 400 9");
        for (int difference : new int[] {LEAST, -401, 401, MOST}) {
            due.is("flow(" + difference + ")", yard.flow(difference), GasYard.NONE);
        }
        int[][] wants = {{-400, 0}, {-399, 0}, {-1, 0}, {0, 7}, {1, 7}, {399, 7}, {400, 9}};
        for (int[] want : wants) {
            due.is("flow(" + want[0] + ")", yard.flow(want[0]), want[1]);
        }
    }
}
