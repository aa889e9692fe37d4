/** Promises 10 (price), 11 (closed), 14 (pass: the press). */
public final class PressTest {
    private static final Due due = new Due();

    public static void main(String[] args) {
        prices();
        closedHours();
        pressOrder();
        coinsByHours();
        pressBehindCars();
        due.end();
    }

    private static void prices() {
        GasYard yard = new GasYard();
        due.is("price(0, 0)", yard.price(0, 0), 1);
        due.is("price(0, 99)", yard.price(0, 99), 0);
        due.is("price(23, 5)", yard.price(23, 5), 1);
        due.is("price(23, 6)", yard.price(23, 6), 5);
        for (int hour : new int[] {-1, 24, Integer.MIN_VALUE, Integer.MAX_VALUE}) {
            due.is("wrong hour", yard.price(hour, 1), GasYard.NONE);
        }
        for (int coins : new int[] {-1, 100, Integer.MIN_VALUE, Integer.MAX_VALUE}) {
            due.is("wrong coins", yard.price(0, coins), GasYard.NONE);
        }
        due.is("price stays", yard.price(0, 1), 99);
    }

    private static void closedHours() {
        GasYard yard = new GasYard();
        due.is("open already", yard.closed(1, false), false);
        due.is("closed", yard.closed(1, true), true);
        due.is("closed already", yard.closed(1, true), false);
        for (int hour : new int[] {-1, 24, Integer.MIN_VALUE, Integer.MAX_VALUE}) {
            due.is("wrong hour", yard.closed(hour, true), false);
        }
        yard.bank(100, 0, 400);
        Due.book(yard, "press 1");
        yard.pass(60);
        due.is("hour 0", yard.count(4), 60);
        yard.pass(60);
        due.is("hour 1 is closed", yard.count(4), 60);
        yard.pass(1);
        due.is("hour 2", yard.count(4), 61);
        due.is("opened", yard.closed(1, false), true);
        due.is("hour 0 closed", yard.closed(0, true), true);
        yard.pass(500);
        yard.pass(500);
        yard.pass(60 * 22 - 1 - 1000);
        due.is("up to the end of hour 23", yard.count(4), 60 + 60 * 22);
        yard.pass(60);
        due.is("hour 24 is hour 0", yard.count(4), 60 + 60 * 22);
        yard.pass(60);
        due.is("hour 25 is hour 1", yard.count(4), 60 + 60 * 23);
    }

    private static void pressOrder() {
        GasYard yard = new GasYard();
        yard.bank(1, 0, 400);
        yard.bank(2, 0, 10);
        yard.bank(1, 5, 10);
        yard.bank(1, 20, 10);
        yard.pass(1);
        due.banksAre(yard, 3, 20, 20, 10, 0, 0, 0);
        due.banksAre(yard, 2, 10, 10, 10, 0, 5, 0);
        due.banksAre(yard, 1, 15, 7, 10, 0, 15, 0);
        due.banksAre(yard, 0, 0, 0, 400, 0, 0, 0);
        due.is("pressed", yard.count(4), 20);
        yard.sensor(0, 1, true);
        yard.pass(1);
        due.is("a lost bank is not filled", yard.banks(1, 0), 15);
        due.is("the next one is", yard.banks(0, 4), 20);
        yard.sensor(0, 1, false);
        yard.target(3, 21);
        yard.pass(1);
        due.is("target more", yard.banks(3, 4), 1);
        due.is("bank 1 up to its target", yard.banks(1, 0), 20);
        due.is("bank 0 with what is left", yard.banks(0, 4), 34);
        due.is("all pressed", yard.count(4), 60);
        due.is("coins", yard.count(5), 60);
        due.is("all gas", yard.count(8), 85);
    }

    private static void coinsByHours() {
        GasYard yard = new GasYard();
        yard.bank(100, 0, 400);
        yard.price(0, 2);
        yard.price(1, 99);
        yard.price(2, 0);
        yard.pass(59);
        due.is("59 ticks of hour 0", yard.count(5), 59 * 40);
        yard.pass(1);
        due.is("tick 59 is of hour 0", yard.count(5), 60 * 40);
        yard.pass(1);
        due.is("tick 60 is of hour 1", yard.count(5), 60 * 40 + 99 * 20);
        yard.pass(59);
        due.is("hour 1", yard.count(5), 60 * 40 + 60 * 99 * 20);
        yard.pass(60);
        due.is("hour 2 costs nothing", yard.count(5), 60 * 40 + 60 * 99 * 20);
        due.is("but presses", yard.count(4), 180 * 20);
    }

    private static void pressBehindCars() {
        GasYard yard = new GasYard();
        Due.book(yard, "press 500;flow 0 10;warm 0");
        yard.bank(1, 100, 100);
        yard.car(1, 0, 300);
        yard.pass(1);
        due.banksAre(yard, 0, 100, 100, 100, 10, 10, 0);
        due.is("car", yard.cars(0, 1), 10);
        due.is("all gas", yard.count(8), 110);
    }
}
