/** Promise 1 (a new object) and promise 21 (count). */
public final class NewYardTest {
    private static final Due due = new Due();

    public static void main(String[] args) {
        newYard();
        counts();
        due.end();
    }

    private static void newYard() {
        GasYard yard = new GasYard();
        int[] wants = {0, 0, 0, 0, 0, 0, 0, 0, 0, 0, 10, 10, 85, 20, 1};
        for (int what = 0; what < wants.length; what++) {
            due.is("new count(" + what + ")", yard.count(what), wants[what]);
        }
        for (int what : new int[] {-1, 15, 16, Integer.MIN_VALUE, Integer.MAX_VALUE}) {
            due.is("new count(" + what + ")", yard.count(what), GasYard.NONE);
        }
        due.is("new air", yard.air(0), 15);
        due.is("new hoses", yard.hoses(1), 1);
        due.is("new slip", yard.slip(0), 2);
        for (int hour = 0; hour < 24; hour++) {
            due.is("new price", yard.price(hour, 1), 1);
            due.is("new closed", yard.closed(hour, false), false);
        }
        due.is("new flow(-1)", yard.flow(-1), 0);
        due.is("new flow(0)", yard.flow(0), 20);
        due.is("new flow(400)", yard.flow(400), 20);
        due.is("new bestOf", yard.bestOf(0, 0), GasYard.NONE);
        due.is("new banks", yard.banks(0, 0), GasYard.NONE);
        due.is("new cars", yard.cars(0, 0), GasYard.NONE);
        due.is("new cars warmth", yard.cars(0, 3), -1000);
        due.is("NONE", GasYard.NONE, -1);
    }

    private static void counts() {
        GasYard yard = new GasYard();
        yard.bank(10, 1000, 110);
        yard.bank(10, 500, 60);
        yard.car(5, 100, 200);
        yard.car(5, 0, 200);
        yard.price(0, 3);
        yard.feed(1, 2, 3, 4, 5);
        due.is("banks told", yard.count(1), 2);
        due.is("cars told", yard.count(2), 2);
        due.is("cars in line", yard.count(3), 2);
        due.is("all gas before", yard.count(8), 1600);
        due.is("pass", yard.pass(1), 1);
        due.is("now", yard.count(0), 1);
        due.is("cars, also at the hose", yard.count(2), 2);
        due.is("in line, not at the hose", yard.count(3), 1);
        due.is("pressed", yard.count(4), 20);
        due.is("coins", yard.count(5), 60);
        due.is("bytes", yard.count(9), 20);
        // bank 0 gave 20 (980, pressure 98), bank 1 took 20 (520, pressure 52)
        due.is("leak", yard.reading(0, 90), 80);
        due.is("find", yard.reading(1, 60), -80);
        due.is("leaked", yard.count(6), 80);
        due.is("found", yard.count(7), 80);
        due.is("all gas", yard.count(8), 1600 + 20 + 80);
        yard.end(0);
        Due.book(yard, "warm 1;cool 2;limit 3;press 4;switch 5");
        for (int what = 10; what <= 14; what++) {
            due.is("count(" + what + ")", yard.count(what), what - 9);
        }
    }
}
