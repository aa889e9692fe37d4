/** READINGS and SLIP at their edges. */
public final class EdgeReadingTest {
    private static final Due due = new Due();

    public static void main(String[] args) {
        belowBySlip();
        aboveBySlip();
        slipOfNothing();
        bookedDownwards();
        allThatIsBetween();
        emptyAndFull();
        readTwice();
        nothingElse();
        lostSensor();
        eachBankItsOwn();
        drawnBehindAReading();
        due.end();
    }

    private static GasYard withBank(int volume, int content) {
        GasYard yard = new GasYard();
        yard.bank(volume, content, 0);
        return yard;
    }

    private static void belowBySlip() {
        due.says("below the BANK's as booked by more than SLIP: LEAKED; else nothing");
        for (int slip : new int[] {0, 1, 2, 49, 50}) {
            for (int below = 0; below <= 52; below++) {
                GasYard yard = withBank(10, 2000);
                yard.slip(slip);
                int leaked = below > slip ? 10 * below : 0;
                due.is("READING " + below + " below at SLIP " + slip, yard.reading(0, 200 - below), leaked);
                due.is("CONTENT", yard.banks(0, 0), 2000 - leaked);
                due.is("LEAKED", yard.count(6), leaked);
                due.is("FOUND", yard.count(7), 0);
                due.is("ALL GAS", yard.count(8), 2000);
            }
        }
    }

    private static void aboveBySlip() {
        due.says("above by more than SLIP: FOUND; else nothing");
        for (int slip : new int[] {0, 1, 2, 49, 50}) {
            for (int above = 0; above <= 52; above++) {
                GasYard yard = withBank(10, 2000);
                yard.slip(slip);
                int found = above > slip ? 10 * above : 0;
                due.is("READING " + above + " above at SLIP " + slip, yard.reading(0, 200 + above), -found);
                due.is("CONTENT", yard.banks(0, 0), 2000 + found);
                due.is("LEAKED", yard.count(6), 0);
                due.is("FOUND", yard.count(7), found);
                due.is("ALL GAS", yard.count(8), 2000 + found);
            }
        }
    }

    private static void slipOfNothing() {
        due.says("SLIP 2 at first");
        due.is("2 below", withBank(1, 100).reading(0, 98), 0);
        due.is("3 below", withBank(1, 100).reading(0, 97), 3);
        due.is("2 above", withBank(1, 100).reading(0, 102), 0);
        due.is("3 above", withBank(1, 100).reading(0, 103), -3);
        due.says("SLIP 0: the same PRESSURE is nothing, and what is beside it is told");
        GasYard yard = withBank(10, 1009);
        yard.slip(0);
        due.is("the same", yard.reading(0, 100), 0);
        due.is("CONTENT stays", yard.banks(0, 0), 1009);
        due.is("one above", yard.reading(0, 101), -1);
        due.is("one below", yard.reading(0, 100), 10);
    }

    private static void bookedDownwards() {
        due.says("the BANK's PRESSURE as booked is downwards");
        due.is("1009 by 10 is 100: 98 is 2 below", withBank(10, 1009).reading(0, 98), 0);
        due.is("97 is 3 below", withBank(10, 1009).reading(0, 97), 39);
        due.is("102 is 2 above", withBank(10, 1009).reading(0, 102), 0);
        due.is("103 is 3 above", withBank(10, 1009).reading(0, 103), -21);
    }

    private static void allThatIsBetween() {
        due.says("all that is between is LEAKED: CONTENT is VOLUME * READING");
        GasYard leak = withBank(100, 39999);
        due.is("399.99 to 3", leak.reading(0, 3), 39699);
        due.is("CONTENT", leak.banks(0, 0), 300);
        due.is("PRESSURE", leak.banks(0, 1), 3);
        due.says("CONTENT is VOLUME * READING, and that is FOUND");
        GasYard find = withBank(100, 399);
        due.is("3.99 to 6", find.reading(0, 6), -201);
        due.is("CONTENT", find.banks(0, 0), 600);
        due.is("FOUND", find.count(7), 201);
    }

    private static void emptyAndFull() {
        due.says("READINGS from an empty BANK to a full one and back");
        GasYard yard = withBank(100, 0);
        due.is("nothing is below", yard.reading(0, 0), 0);
        due.is("all of it FOUND", yard.reading(0, 400), -40000);
        due.is("nothing is above", yard.reading(0, 400), 0);
        due.is("all of it LEAKED", yard.reading(0, 0), 40000);
        due.is("LEAKED", yard.count(6), 40000);
        due.is("FOUND", yard.count(7), 40000);
        due.is("ALL GAS", yard.count(8), 40000);
        due.is("CONTENT", yard.banks(0, 0), 0);
    }

    private static void readTwice() {
        due.says("a READING is booked: the same one again is nothing");
        GasYard yard = withBank(10, 1000);
        due.is("first", yard.reading(0, 50), 500);
        due.is("again", yard.reading(0, 50), 0);
        due.is("by SLIP from there", yard.reading(0, 52), 0);
        due.is("by SLIP from there still", yard.reading(0, 48), 0);
        due.is("more", yard.reading(0, 47), 30);
        due.is("LEAKED in all", yard.count(6), 530);
    }

    private static void nothingElse() {
        due.says("a READING changes CONTENT, LEAKED and FOUND alone");
        GasYard yard = new GasYard();
        yard.bank(10, 1000, 300);
        yard.bank(10, 1000, 200);
        yard.reading(0, 10);
        yard.reading(1, 110);
        due.banksAre(yard, 0, 100, 10, 300, 0, 0, 0);
        due.banksAre(yard, 1, 1100, 110, 200, 0, 0, 0);
        due.is("NOW", yard.count(0), 0);
        due.is("PRESSED", yard.count(4), 0);
        due.is("coins", yard.count(5), 0);
    }

    private static void lostSensor() {
        due.says("A READING of a BANK, also of one whose SENSOR is lost");
        GasYard yard = withBank(10, 1000);
        yard.sensor(0, 0, true);
        due.is("LEAKED", yard.reading(0, 10), 900);
        due.is("its SENSOR is lost still", yard.banks(0, 5), 1);
    }

    private static void eachBankItsOwn() {
        due.says("A READING of a BANK: of that one");
        GasYard yard = new GasYard();
        for (int k = 0; k < 4; k++) {
            due.is("not told yet", yard.reading(k, 50), -1000000);
            yard.bank(k + 1, 100 * (k + 1), 0);
        }
        for (int k = 3; k >= 0; k--) {
            due.is("BANK " + k, yard.reading(k, 50), 50 * (k + 1));
            for (int other = 0; other < 4; other++) {
                due.is("CONTENT", yard.banks(other, 0), (other < k ? 100 : 50) * (other + 1));
            }
        }
        due.is("BANK 4", yard.reading(4, 50), -1000000);
    }

    private static void drawnBehindAReading() {
        due.says("what was LEAKED can't be drawn, what was FOUND can");
        GasYard yard = Due.under("press 0;flow 0 500;warm 0");
        yard.bank(1, 100, 0);
        yard.reading(0, 10);
        yard.hoses(2);
        yard.car(1, 0, 300);
        yard.pass(1);
        due.is("of 10", yard.cars(0, 1), 5);
        yard.reading(0, 400);
        yard.car(1, 0, 300);
        yard.pass(1);
        due.is("of 400: CAR 0 first", yard.cars(0, 1), 5 + 197);
        due.is("then CAR 1", yard.cars(1, 1), 101);
    }
}
