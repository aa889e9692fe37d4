/** A TICK with its steps (a) to (d), at the edge of each of its sentences. */
public final class EdgeTickTest {
    private static final Due due = new Due();

    public static void main(String[] args) {
        firstOfTheLine();
        hosesByNumbers();
        hosesThatAreNotThere();
        hoseThatWouldGo();
        hoseFreeInTheNextTick();
        sensorOfACar();
        flowByDifference();
        flowByPressuresDownwards();
        flowNoneOrBelow();
        evenJust();
        evenNone();
        lacksToMax();
        warmthUpToLimit();
        warmthDownwards();
        warmthAboveLimit();
        warmthAtLimit();
        leastOfAll();
        switchJust();
        sensorOfABank();
        nextBanksInOneTick();
        behindTheLastBank();
        neverBack();
        bankToldLater();
        noBanks();
        coolingDown();
        coolingUp();
        coolingWho();
        pressAtMost();
        pressFromTheGreatest();
        pressAboveTarget();
        pressSensors();
        pressBehindHoses();
        hours();
        hoursWrapAround();
        pricesOfUnits();
        allGas();
        due.end();
    }

    private static void states(GasYard yard, int... wants) {
        for (int k = 0; k < wants.length; k++) {
            due.is("state of CAR " + k, yard.cars(k, 0), wants[k]);
        }
    }

    private static void contents(GasYard yard, int... wants) {
        for (int k = 0; k < wants.length; k++) {
            due.is("CONTENT of CAR " + k, yard.cars(k, 1), wants[k]);
        }
    }

    /** A yard with one great full BANK, and no press. */
    private static GasYard great(String book) {
        GasYard yard = Due.under("press 0;" + book);
        yard.bank(100, 40000, 0);
        return yard;
    }

    private static void firstOfTheLine() {
        due.says("(a) HOSES that are free take the first CAR of the line, in line as they come");
        GasYard yard = great("flow 0 5;warm 0");
        yard.pass(1);
        for (int k = 0; k < 3; k++) {
            yard.car(1, 0, 10);
        }
        states(yard, 0, 0, 0);
        due.is("in line", yard.count(3), 3);
        yard.pass(1);
        states(yard, 1, 0, 0);
        due.is("in line", yard.count(3), 2);
        due.is("the TICK in which it came", yard.cars(0, 5), 1);
        due.is("NONE while in line", yard.cars(1, 5), GasYard.NONE);
        due.says("a HOSE that is not free takes none");
        yard.pass(1);
        states(yard, 1, 0, 0);
        contents(yard, 10, 0, 0);
    }

    private static void hosesByNumbers() {
        due.says("(a), (b) HOSES by numbers");
        GasYard yard = Due.under("press 0;flow 0 500;warm 0");
        yard.bank(1, 100, 0);
        yard.hoses(2);
        yard.car(1, 0, 300);
        yard.car(1, 0, 300);
        yard.pass(1);
        contents(yard, 50, 25);
        due.says("one CAR alone is at HOSE 0: HOSE 1 may go");
        GasYard alone = great("flow 0 5;warm 0");
        alone.hoses(2);
        alone.car(1, 0, 300);
        alone.pass(1);
        due.is("hoses(1)", alone.hoses(1), 2);
        due.says("HOSE 0 is free, HOSE 1 is not: the next CAR is at HOSE 0, and draws ahead of it");
        GasYard later = Due.under("press 0;flow 0 40;warm 0");
        later.bank(1, 100, 0);
        later.hoses(2);
        later.car(1, 0, 1);
        later.car(1, 0, 300);
        later.pass(2);
        // CAR 0 has 1 and went; CAR 1 drew 40, and 9 of the 19 that were ahead
        states(later, 2, 1);
        contents(later, 1, 49);
        later.reading(0, 400);
        Due.book(later, "press 0;flow 0 500;warm 0");
        later.car(1, 0, 300);
        later.pass(1);
        // CAR 2 first: 200 of 400; then CAR 1: (200 - 49) / 2
        contents(later, 1, 49 + 75, 200);
    }

    private static void hosesThatAreNotThere() {
        due.says("HOSES: 1 or 2 (1 at first): with 1 a second CAR waits");
        GasYard yard = great("flow 0 5;warm 0");
        yard.car(1, 0, 300);
        yard.car(1, 0, 300);
        yard.car(1, 0, 300);
        yard.pass(1);
        states(yard, 1, 0, 0);
        yard.hoses(2);
        states(yard, 1, 0, 0);
        yard.pass(1);
        states(yard, 1, 1, 0);
        due.is("came", yard.cars(1, 5), 1);
    }

    private static void hoseThatWouldGo() {
        due.says("hoses: NONE if a CAR is at one that would go");
        GasYard yard = great("flow 0 5;warm 0");
        yard.hoses(2);
        yard.car(1, 0, 300);
        yard.car(1, 0, 300);
        due.is("CARS in line are at none", yard.hoses(1), 2);
        yard.hoses(2);
        yard.pass(1);
        due.is("hoses(1)", yard.hoses(1), GasYard.NONE);
        due.is("hoses(2)", yard.hoses(2), 2);
        yard.sensor(1, 0, true);
        yard.pass(1);
        states(yard, 4, 1);
        due.is("HOSE 1 alone has a CAR", yard.hoses(1), GasYard.NONE);
        yard.sensor(1, 1, true);
        due.is("it is still there", yard.hoses(1), GasYard.NONE);
        yard.pass(1);
        due.is("none is there", yard.hoses(1), 2);
    }

    private static void hoseFreeInTheNextTick() {
        due.says("The HOSE of a CAR that goes is free in the next TICK");
        GasYard yard = great("flow 0 5;warm 0");
        yard.car(1, 0, 5);
        yard.car(1, 5, 5);
        yard.car(1, 0, 5);
        yard.pass(1);
        states(yard, 1, 0, 0);
        yard.pass(1);
        states(yard, 2, 0, 0);
        due.is("went", yard.cars(0, 6), 1);
        yard.pass(1);
        states(yard, 2, 2, 0);
        due.is("came", yard.cars(1, 5), 2);
        due.is("went in the same TICK", yard.cars(1, 6), 2);
        yard.pass(1);
        states(yard, 2, 2, 1);
        due.is("came", yard.cars(2, 5), 3);
        due.is("not gone", yard.cars(2, 6), GasYard.NONE);
    }

    private static void sensorOfACar() {
        due.says("(b) a CAR whose SENSOR is lost goes (SAFE)");
        GasYard yard = great("flow 0 5;warm 0");
        yard.car(1, 0, 300);
        yard.pass(1);
        yard.sensor(1, 0, true);
        states(yard, 1);
        due.is("it still draws from its BANK", yard.cars(0, 4), 0);
        yard.pass(1);
        due.carsAre(yard, 0, 4, 5, 5, 150, GasYard.NONE, 0, 1, 5);
        due.says("SAFE, also if it is full, or there is no BANK");
        GasYard none = new GasYard();
        none.car(1, 1, 1);
        none.car(1, 0, 1);
        none.sensor(1, 0, true);
        none.sensor(1, 1, true);
        none.pass(2);
        states(none, 4, 4);
        due.says("a SENSOR that is found again in time is not lost");
        GasYard found = great("flow 0 5;warm 0");
        found.car(1, 0, 300);
        found.sensor(1, 0, true);
        found.sensor(1, 0, false);
        found.pass(1);
        states(found, 1);
        contents(found, 5);
        due.says("SENSOR of a CAR in line: it goes only when it is at a HOSE");
        GasYard line = great("flow 0 5;warm 0");
        line.car(1, 0, 10);
        line.car(1, 0, 10);
        line.sensor(1, 1, true);
        line.pass(2);
        states(line, 1, 0);
        line.pass(2);
        states(line, 2, 4);
        due.is("came", line.cars(1, 5), 3);
        due.is("went", line.cars(1, 6), 3);
        due.says("sensor: False for a CAR that went");
        due.is("of CAR 0, lost", line.sensor(1, 0, true), false);
        due.is("of CAR 1, not lost", line.sensor(1, 1, false), false);
    }

    private static void flowByDifference() {
        due.says("FLOW at the difference of the BANK's PRESSURE and the CAR's: from d on");
        for (int content = 48; content <= 52; content++) {
            GasYard yard = Due.under("press 0;flow 0 3;flow 50 8;warm 0");
            yard.bank(10, 1000, 0);
            yard.car(1, content, 300);
            yard.pass(1);
            contents(yard, content + (content <= 50 ? 8 : 3));
        }
    }

    private static void flowByPressuresDownwards() {
        due.says("FLOW at the difference of PRESSURES, each downwards");
        GasYard yard = Due.under("press 0;flow 0 3;flow 50 8;warm 0");
        yard.bank(10, 1009, 0);
        yard.car(10, 500, 300);
        yard.pass(1);
        contents(yard, 508);
        // 1001 by 10 less 508 by 10 is 50 still, though 493 by 10 is not
        yard.pass(1);
        contents(yard, 516);
        yard.pass(1);
        contents(yard, 519);
        GasYard up = Due.under("press 0;flow 0 3;flow 50 8;warm 0");
        up.bank(10, 1000, 0);
        up.car(10, 509, 300);
        up.pass(1);
        due.says("FLOW: the CAR's PRESSURE is downwards, so 509 by 10 is 50");
        contents(up, 517);
    }

    private static void flowNoneOrBelow() {
        due.says("FLOW 0 if no d is so low: the CAR goes on to the next BANK");
        GasYard yard = Due.under("press 0;flow 60 8;warm 0");
        yard.bank(10, 1000, 0);
        yard.bank(10, 2000, 0);
        yard.car(1, 41, 300);
        yard.pass(1);
        due.is("BANK", yard.cars(0, 4), 1);
        contents(yard, 49);
        due.says("FLOW 0 below a difference of 0, though units could go over");
        GasYard below = Due.under("press 0;warm 0");
        below.bank(10, 999, 0);
        below.car(1, 100, 300);
        below.pass(1);
        states(below, 3);
        due.says("FLOW at a difference of 0: units that make them even");
        GasYard zero = Due.under("press 0;warm 0");
        zero.bank(10, 1009, 0);
        zero.car(10, 1000, 300);
        zero.pass(1);
        contents(zero, 1004);
    }

    private static void evenJust() {
        due.says("the most with which (BANK's CONTENT - f) * CAR's VOLUME is not below (CAR's CONTENT + f) * BANK's VOLUME");
        int[][] told = {
            // bank volume, content, car volume, content, f
            {1, 100, 1, 0, 50}, {1, 101, 1, 0, 50}, {1, 99, 1, 0, 49}, {10, 1000, 5, 200, 200}, {10, 1001, 5, 200, 200},
            {10, 1002, 5, 200, 200}, {10, 1003, 5, 200, 201}, {10, 999, 5, 200, 199}, {100, 3001, 1, 29, 1},
            {100, 3002, 20, 599, 1}, {100, 3011, 20, 599, 2}, {100, 3012, 20, 599, 2}, {3, 8, 2, 3, 1}, {3, 7, 2, 3, 1}, {3, 7, 2, 4, 0}, {3, 6, 2, 4, 0},
        };
        for (int[] t : told) {
            GasYard yard = Due.under("press 0;flow 0 500;warm 0");
            yard.bank(t[0], t[1], 0);
            yard.car(t[2], t[3], 300);
            yard.pass(1);
            contents(yard, t[3] + t[4]);
            due.is("drawn from the BANK", yard.banks(0, 3), t[4]);
            due.is("left in the BANK", yard.banks(0, 0), t[1] - t[4]);
            due.is("units it drew", yard.cars(0, 7), t[4]);
            states(yard, t[4] == 0 ? 3 : 1);
        }
    }

    private static void evenNone() {
        due.says("what makes them even: 0 if none");
        GasYard yard = Due.under("press 0;flow 0 500;warm 0");
        yard.bank(1, 0, 0);
        yard.bank(7, 20, 0);
        yard.car(3, 0, 300);
        yard.pass(1);
        due.is("an empty BANK gives none", yard.cars(0, 4), 1);
        // (20 - f) * 3 >= f * 7: 6
        contents(yard, 6);
        GasYard below = Due.under("press 0;flow 0 500;warm 0");
        below.bank(1, 99, 0);
        below.car(1, 100, 300);
        below.pass(1);
        states(below, 3);
        contents(below, 100);
        due.is("nothing flows back", below.banks(0, 0), 99);
        due.says("0 if none: equal PRESSURES downwards, but the CAR is ahead");
        GasYard ahead = Due.under("press 0;flow 0 500;warm 0");
        ahead.bank(10, 1000, 0);
        ahead.car(10, 1009, 300);
        ahead.pass(1);
        states(ahead, 3);
        contents(ahead, 1009);
    }

    private static void lacksToMax() {
        due.says("what lacks to VOLUME * MAX");
        for (int lacks = 0; lacks <= 6; lacks++) {
            GasYard yard = great("flow 0 5;warm 0");
            yard.car(20, 6000 - lacks, 300);
            yard.pass(1);
            contents(yard, 6000 - lacks + Math.min(5, lacks));
            states(yard, lacks == 0 ? 2 : 1);
        }
    }

    private static void warmthUpToLimit() {
        due.says("the most with which its WARMTH and f * warm by its VOLUME (downwards) is not above ten times limit");
        int[][] told = {
            // warm, volume, limit, f, WARMTH behind (cool 100 takes its hundredth part of what is above 150)
            {10, 1, 20, 5, 200}, {10, 2, 20, 10, 200}, {1, 1, 20, 50, 200}, {7, 3, 20, 21, 199}, {3, 1, 20, 16, 198},
            {51, 1, 20, 0, 150}, {50, 1, 20, 1, 200}, {100, 20, 20, 10, 200}, {100, 1, 15, 0, 150}, {1, 20, 16, 219, 160},
            {2, 20, 16, 109, 160}, {100, 7, 20, 3, 192},
        };
        for (int[] t : told) {
            GasYard yard = great("flow 0 500;cool 100;warm " + t[0] + ";limit " + t[2]);
            yard.car(t[1], 0, 300);
            yard.pass(1);
            due.is("units at warm " + t[0] + ", VOLUME " + t[1], yard.cars(0, 1), t[3]);
            due.is("WARMTH", yard.cars(0, 3), t[4]);
            states(yard, t[3] == 0 ? 3 : 1);
        }
    }

    private static void warmthDownwards() {
        due.says("WARMTH is f * warm by VOLUME (downwards) more");
        GasYard yard = great("flow 0 5;cool 100;warm 3");
        yard.car(4, 0, 300);
        yard.pass(1);
        due.is("15 by 4", yard.cars(0, 3), 153);
        yard.pass(1);
        due.is("and once more", yard.cars(0, 3), 156);
        GasYard none = great("flow 0 5;cool 100;warm 0");
        none.car(1, 0, 300);
        none.pass(1);
        due.is("warm 0", none.cars(0, 3), 150);
        GasYard most = great("flow 0 8;cool 100;warm 100;limit 200");
        most.car(1, 0, 300);
        most.pass(1);
        // 150 + 800, less 800 by 100
        due.is("warm 100", most.cars(0, 3), 942);
        due.says("WARMTH below 0 rises in the same way");
        GasYard cold = great("flow 0 5;cool 100;warm 3");
        cold.air(-30);
        cold.car(4, 0, 300);
        cold.pass(1);
        due.is("-300 and 15 by 4", cold.cars(0, 3), -297);
    }

    private static void warmthAboveLimit() {
        due.says("if its WARMTH is above that: 0");
        for (int warm : new int[] {0, 1, 10}) {
            GasYard yard = great("flow 0 5;limit 14;warm " + warm);
            yard.car(20, 0, 300);
            yard.pass(1);
            states(yard, 3);
            contents(yard, 0);
        }
        due.says("above by a tenth of a degree");
        GasYard tenth = great("flow 0 7;limit 2;warm 0;cool 100");
        tenth.air(2);
        tenth.car(20, 0, 300);
        tenth.pass(1);
        contents(tenth, 7);
        tenth.air(12);
        // 20 less -100 by 100
        tenth.pass(1);
        due.is("WARMTH", tenth.cars(0, 3), 21);
        contents(tenth, 14);
        tenth.pass(1);
        states(tenth, 3);
        contents(tenth, 14);
        due.says("limit 0");
        GasYard zero = great("flow 0 5;limit 0;warm 10");
        zero.air(0);
        zero.car(1, 0, 300);
        zero.pass(1);
        states(zero, 3);
        GasYard below = great("flow 0 500;limit 0;warm 10;cool 1");
        below.air(-30);
        below.car(1, 0, 300);
        below.pass(1);
        contents(below, 30);
    }

    private static void warmthAtLimit() {
        due.says("not above: just at the limit, as much as adds nothing downwards");
        GasYard yard = great("flow 0 500;limit 15;warm 1");
        yard.car(20, 0, 300);
        yard.pass(1);
        contents(yard, 19);
        due.is("WARMTH", yard.cars(0, 3), 150);
        GasYard none = great("flow 0 500;limit 15;warm 20");
        none.car(20, 0, 300);
        none.pass(1);
        states(none, 3);
        GasYard still = great("flow 0 500;limit 15;warm 0");
        still.car(20, 0, 300);
        still.pass(1);
        contents(still, 500);
    }

    private static void leastOfAll() {
        due.says("units f are the least of: FLOW, even, lacks, warmth");
        int[][] told = {
            // flow, bank content of volume 1, max, limit (warm 10, volume 1), f
            {6, 14, 7, 22, 6}, {7, 13, 7, 22, 6}, {7, 14, 6, 22, 6}, {7, 14, 7, 21, 6}, {7, 14, 7, 22, 7},
        };
        for (int[] t : told) {
            GasYard yard = Due.under("press 0;warm 10;flow 0 " + t[0] + ";limit " + t[3]);
            yard.bank(1, t[1], 0);
            yard.car(1, 0, t[2]);
            yard.pass(1);
            contents(yard, t[4]);
        }
    }

    private static void switchJust() {
        due.says("If that is below switch: the next BANK");
        for (int least : new int[] {1, 2, 499, 500}) {
            for (int flow : new int[] {least - 1, least}) {
                GasYard yard = Due.under("press 0;warm 0;flow 0 " + flow + ";switch " + least);
                yard.bank(100, 40000, 0);
                yard.car(20, 0, 300);
                yard.pass(1);
                states(yard, flow < least ? 3 : 1);
                contents(yard, flow < least ? 0 : flow);
            }
        }
        due.says("below switch, though it is what lacks: the CAR goes SHORT");
        GasYard yard = great("flow 0 10;switch 4;warm 0");
        yard.car(1, 0, 13);
        yard.pass(1);
        contents(yard, 10);
        yard.pass(1);
        states(yard, 3);
        contents(yard, 10);
    }

    private static void sensorOfABank() {
        due.says("the SENSOR of the BANK is lost: the next BANK");
        GasYard yard = great("flow 0 5;warm 0");
        yard.bank(100, 39000, 0);
        yard.car(1, 0, 300);
        yard.pass(1);
        due.is("BANK", yard.cars(0, 4), 0);
        yard.sensor(0, 0, true);
        due.is("BANK, ahead of the TICK", yard.cars(0, 4), 0);
        yard.pass(1);
        due.is("BANK", yard.cars(0, 4), 1);
        contents(yard, 10);
        due.is("drawn from BANK 0", yard.banks(0, 3), 5);
        due.is("drawn from BANK 1", yard.banks(1, 3), 5);
        yard.sensor(0, 1, true);
        yard.pass(1);
        states(yard, 3);
        due.says("all SENSORS of BANKS are lost: FULL still if nothing lacks");
        yard.car(1, 300, 300);
        yard.pass(1);
        states(yard, 3, 2);
        due.says("sensor: whether that changed anything");
        due.is("lost again", yard.sensor(0, 0, true), false);
        due.is("not lost", yard.sensor(0, 0, false), true);
        due.is("not lost again", yard.sensor(0, 0, false), false);
        due.says("sensor: False without these");
        int[][] without = {{0, 2}, {0, 4}, {0, -1}, {0, Integer.MAX_VALUE}, {0, Integer.MIN_VALUE}, {1, 2}, {1, 60},
            {1, -1}, {1, Integer.MAX_VALUE}, {1, Integer.MIN_VALUE}, {2, 0}, {-1, 0}, {Integer.MAX_VALUE, 0},
            {Integer.MIN_VALUE, 0}};
        for (int[] w : without) {
            due.is("sensor(" + w[0] + ", " + w[1] + ", true)", yard.sensor(w[0], w[1], true), false);
            due.is("sensor(" + w[0] + ", " + w[1] + ", false)", yard.sensor(w[0], w[1], false), false);
        }
    }

    private static void nextBanksInOneTick() {
        due.says("the next BANK, and so on in the same TICK");
        GasYard yard = Due.under("press 0;flow 0 500;warm 0");
        yard.bank(1, 0, 0);
        yard.bank(1, 400, 0);
        yard.bank(1, 10, 0);
        yard.bank(1, 100, 0);
        yard.sensor(0, 1, true);
        yard.car(1, 10, 300);
        yard.pass(1);
        due.carsAre(yard, 0, 1, 55, 55, 150, 3, 0, GasYard.NONE, 45);
        due.is("drawn from BANK 3", yard.banks(3, 3), 45);
        due.says("in one TICK a CAR draws from one BANK alone");
        due.is("drawn from BANK 2", yard.banks(2, 3), 0);
    }

    private static void behindTheLastBank() {
        due.says("behind the last one the CAR goes (FULL if what lacks to MAX is 0, else SHORT)");
        for (int banks = 1; banks <= 4; banks++) {
            GasYard yard = Due.under("press 0;flow 0 500;warm 0");
            for (int k = 0; k < banks; k++) {
                yard.bank(1, 10, 0);
            }
            yard.hoses(2);
            yard.car(2, 20, 10);
            yard.car(2, 20, 11);
            yard.pass(1);
            due.carsAre(yard, 0, 2, 20, 10, 150, GasYard.NONE, 0, 0, 0);
            due.carsAre(yard, 1, 3, 20, 10, 150, GasYard.NONE, 0, 0, 0);
        }
    }

    private static void neverBack() {
        due.says("A CAR draws from a BANK, at first BANK 0; then from the next ones alone");
        GasYard yard = Due.under("press 0;flow 0 5;warm 0");
        yard.bank(100, 0, 0);
        yard.bank(100, 40000, 0);
        yard.hoses(2);
        yard.car(1, 0, 300);
        yard.pass(1);
        due.is("BANK", yard.cars(0, 4), 1);
        yard.reading(0, 400);
        yard.car(1, 0, 300);
        yard.pass(1);
        due.is("BANK of CAR 0", yard.cars(0, 4), 1);
        due.is("BANK of CAR 1", yard.cars(1, 4), 0);
        yard.reading(1, 0);
        yard.pass(1);
        states(yard, 3, 1);
        due.says("a SENSOR that is found again brings no CAR back");
        GasYard found = great("flow 0 5;warm 0");
        found.bank(100, 40000, 0);
        found.sensor(0, 0, true);
        found.car(1, 0, 300);
        found.pass(1);
        found.sensor(0, 0, false);
        found.pass(1);
        due.is("BANK", found.cars(0, 4), 1);
        due.is("units", found.banks(1, 3), 10);
    }

    private static void bankToldLater() {
        due.says("the next BANK, also one that was told when the CAR was at its HOSE");
        GasYard yard = Due.under("press 0;flow 0 500;warm 0");
        yard.bank(1, 100, 0);
        yard.car(1, 0, 300);
        yard.pass(1);
        yard.bank(1, 150, 0);
        yard.pass(1);
        due.carsAre(yard, 0, 1, 100, 100, 150, 1, 0, GasYard.NONE, 100);
    }

    private static void noBanks() {
        due.says("no BANKS: behind the last one at once");
        GasYard yard = new GasYard();
        yard.car(1, 0, 1);
        yard.car(1, 1, 1);
        yard.pass(1);
        states(yard, 3, 0);
        yard.pass(1);
        states(yard, 3, 2);
        due.is("came", yard.cars(1, 5), 1);
        due.is("went", yard.cars(1, 6), 1);
    }

    private static void coolingDown() {
        due.says("(c) WARMTH: less the difference to ten times AIR by cool, towards 0");
        int[][] told = {
            // AIR it came with, AIR then, cool, WARMTH behind a TICK, behind a second one
            {50, 0, 1, 0, 0}, {50, 0, 2, 250, 125}, {50, 0, 100, 495, 491}, {50, 0, 7, 429, 368}, {10, 0, 100, 99, 99},
            {9, 0, 100, 90, 90}, {50, -30, 3, 234, 56}, {20, 15, 51, 200, 200}, {20, 15, 50, 199, 199},
        };
        for (int[] t : told) {
            GasYard yard = Due.under("cool " + t[2]);
            cooled(yard, t);
        }
        due.says("cool 10 without");
        cooled(new GasYard(), new int[] {50, 0, 10, 450, 405});
    }

    private static void coolingUp() {
        due.says("(c) towards 0: a CAR colder than the AIR, too");
        int[][] told = {
            {-30, 50, 1, 500, 500}, {0, 50, 2, 250, 375}, {0, 50, 7, 71, 132}, {-30, 0, 100, -297, -295},
            {-9, 0, 100, -90, -90}, {-10, 0, 100, -99, -99}, {15, 20, 51, 150, 150}, {15, 20, 50, 151, 151},
        };
        for (int[] t : told) {
            GasYard yard = Due.under("cool " + t[2]);
            cooled(yard, t);
        }
    }

    private static void cooled(GasYard yard, int[] t) {
        yard.air(t[0]);
        // the first CAR holds the only HOSE, so that the second one stays in line
        yard.bank(100, 40000, 0);
        yard.car(20, 0, 300);
        yard.car(1, 0, 1);
        yard.air(t[1]);
        yard.pass(1);
        due.is("WARMTH from " + t[0] + " in " + t[1] + " by " + t[2], yard.cars(1, 3), t[3]);
        yard.pass(1);
        due.is("and once more", yard.cars(1, 3), t[4]);
        due.is("still in line", yard.cars(1, 0), 0);
    }

    private static void coolingWho() {
        due.says("(c) WARMTH of CARS in line or at a HOSE");
        GasYard yard = great("flow 0 5;warm 10;cool 2");
        yard.car(1, 0, 5);
        yard.car(1, 0, 300);
        yard.pass(1);
        due.is("at a HOSE, behind what it drew", yard.cars(0, 3), 175);
        due.is("in line", yard.cars(1, 3), 150);
        yard.air(5);
        yard.pass(1);
        states(yard, 2, 0);
        due.says("(c) not of CARS that went, in the same TICK or later");
        due.is("it went", yard.cars(0, 3), 175);
        due.is("in line", yard.cars(1, 3), 100);
        yard.pass(1);
        due.is("it went", yard.cars(0, 3), 175);
        due.is("at a HOSE: 100 + 50, less 100 by 2", yard.cars(1, 3), 100);
        yard.sensor(1, 1, true);
        yard.pass(1);
        due.is("it went, too", yard.cars(1, 3), 100);
    }

    private static void pressAtMost() {
        due.says("(d) press units at most in this TICK; as much as lacks to VOLUME * TARGET");
        for (int press : new int[] {0, 1, 499, 500}) {
            for (int lacks : new int[] {0, 1, 499, 500, 501}) {
                GasYard yard = Due.under("press " + press);
                yard.bank(10, 1000 - lacks, 100);
                yard.pass(1);
                int units = Math.min(press, lacks);
                due.is("press " + press + ", lacks " + lacks, yard.banks(0, 0), 1000 - lacks + units);
                due.is("PRESSED into it", yard.banks(0, 4), units);
                due.is("PRESSED", yard.count(4), units);
            }
        }
        due.says("press 20 without");
        GasYard yard = new GasYard();
        yard.bank(100, 0, 400);
        yard.pass(1);
        due.is("PRESSED", yard.count(4), 20);
        due.says("no BANKS: none is PRESSED");
        GasYard none = new GasYard();
        due.is("pass", none.pass(500), 500);
        due.is("PRESSED", none.count(4), 0);
        due.is("coins", none.count(5), 0);
    }

    private static void pressFromTheGreatest() {
        due.says("(d) BANKS from the greatest number down, as far as units are left");
        int[][] wants = {{0, 0, 0, 6}, {0, 0, 2, 10}, {0, 4, 10, 10}, {8, 10, 10, 10}, {10, 10, 10, 10}};
        int[] press = {6, 12, 24, 38, 40};
        for (int k = 0; k < press.length; k++) {
            GasYard yard = Due.under("press " + press[k]);
            for (int bank = 0; bank < 4; bank++) {
                yard.bank(1, 0, 10);
            }
            yard.pass(1);
            for (int bank = 0; bank < 4; bank++) {
                due.is("press " + press[k] + " into BANK " + bank, yard.banks(bank, 0), wants[k][bank]);
                due.is("PRESSED into BANK " + bank, yard.banks(bank, 4), wants[k][bank]);
            }
        }
    }

    private static void pressAboveTarget() {
        due.says("(d) nothing lacks above TARGET, and nothing is taken off");
        GasYard yard = new GasYard();
        yard.bank(10, 0, 400);
        yard.bank(10, 500, 49);
        yard.bank(10, 490, 49);
        yard.bank(10, 489, 49);
        yard.pass(1);
        due.is("BANK 3", yard.banks(3, 0), 490);
        due.is("BANK 2", yard.banks(2, 0), 490);
        due.is("BANK 1", yard.banks(1, 0), 500);
        due.is("BANK 0", yard.banks(0, 0), 19);
        due.is("TARGET 0", yard.target(0, 0), 400);
        yard.pass(1);
        due.is("BANK 0 stays", yard.banks(0, 0), 19);
        due.says("(d) TARGET 400: up to VOLUME * 400 and no more");
        GasYard full = Due.under("press 500");
        full.bank(1, 399, 400);
        full.pass(2);
        due.is("CONTENT", full.banks(0, 0), 400);
        due.is("PRESSED", full.count(4), 1);
    }

    private static void pressSensors() {
        due.says("(d) BANKS whose SENSOR is not lost");
        GasYard yard = new GasYard();
        yard.bank(100, 0, 400);
        yard.bank(100, 0, 400);
        yard.sensor(0, 1, true);
        yard.pass(1);
        due.is("BANK 1", yard.banks(1, 4), 0);
        due.is("BANK 0", yard.banks(0, 4), 20);
        yard.sensor(0, 0, true);
        yard.pass(1);
        due.is("all are lost", yard.count(4), 20);
        yard.sensor(0, 1, false);
        yard.pass(1);
        due.is("BANK 1 again", yard.banks(1, 4), 20);
        due.is("BANK 0", yard.banks(0, 4), 20);
    }

    private static void pressBehindHoses() {
        due.says("(b) is ahead of (d): what is PRESSED in a TICK is drawn in the next one");
        GasYard yard = Due.under("press 100;flow 0 500;warm 0");
        yard.bank(1, 0, 300);
        yard.car(1, 0, 300);
        yard.pass(1);
        states(yard, 3);
        due.is("BANK", yard.banks(0, 0), 100);
        yard.car(1, 0, 300);
        yard.pass(1);
        contents(yard, 0, 50);
        due.is("BANK", yard.banks(0, 0), 150);
        due.is("units drawn", yard.banks(0, 3), 50);
        due.is("PRESSED", yard.banks(0, 4), 200);
    }

    private static void hours() {
        due.says("(d) the HOUR (NOW / 60): TICK 59 is of HOUR 0, TICK 60 of HOUR 1");
        GasYard yard = Due.under("press 1");
        yard.bank(100, 0, 400);
        yard.price(1, 10);
        yard.pass(59);
        due.is("coins of 59 TICKS", yard.count(5), 59);
        yard.pass(1);
        due.is("coins of TICK 59", yard.count(5), 60);
        yard.pass(1);
        due.is("coins of TICK 60", yard.count(5), 70);
        due.says("an HOUR may be CLOSED to the press");
        yard.closed(1, true);
        yard.pass(59);
        due.is("PRESSED in HOUR 1", yard.count(4), 61);
        due.is("coins", yard.count(5), 70);
        due.is("NOW goes on", yard.count(0), 120);
        yard.pass(1);
        due.is("PRESSED in HOUR 2", yard.count(4), 62);
        due.says("CLOSED to the press alone: CARS draw and cool");
        GasYard shut = Due.under("flow 0 5;warm 10;cool 2");
        shut.bank(1, 100, 400);
        shut.closed(0, true);
        shut.car(1, 0, 300);
        shut.pass(1);
        contents(shut, 5);
        due.is("WARMTH", shut.cars(0, 3), 175);
        due.is("BANK", shut.banks(0, 0), 95);
        due.says("an HOUR that is no more CLOSED");
        shut.closed(0, false);
        shut.pass(1);
        due.is("BANK", shut.banks(0, 0), 95 - 5 + 20);
    }

    private static void hoursWrapAround() {
        due.says("(d) the HOUR: NOW / 60, of 24 the rest");
        GasYard yard = Due.under("press 1");
        yard.bank(100, 0, 400);
        for (int hour = 0; hour < 24; hour++) {
            yard.price(hour, hour);
        }
        int coins = 0;
        // 9960 is the last whole HOUR that can go by: HOUR 165, of 24 the rest 21
        for (int now = 0; now < 9960; now += 60) {
            due.is("NOW", yard.pass(60), now + 60);
            coins += 60 * (now / 60 % 24);
            due.is("coins behind TICK " + (now + 59), yard.count(5), coins);
        }
        due.is("the last TICKS", yard.pass(39), 9999);
        due.is("coins", yard.count(5), coins + 39 * 22);
        due.is("PRESSED", yard.count(4), 9999);
        due.says("HOUR 23 and HOUR 0 CLOSED");
        GasYard shut = Due.under("press 1");
        shut.bank(100, 0, 400);
        shut.closed(23, true);
        shut.pass(500);
        shut.pass(500);
        shut.pass(380);
        due.is("up to HOUR 23", shut.count(4), 1380);
        shut.pass(60);
        due.is("HOUR 23", shut.count(4), 1380);
        shut.pass(1);
        due.is("TICK 1440 is of HOUR 0", shut.count(4), 1381);
    }

    private static void pricesOfUnits() {
        due.says("each unit costs the PRICE of the HOUR (0 to 99)");
        for (int coins : new int[] {0, 1, 98, 99}) {
            GasYard yard = Due.under("press 500");
            yard.bank(100, 0, 400);
            yard.bank(1, 0, 7);
            yard.price(0, coins);
            yard.pass(2);
            due.is("coins at PRICE " + coins, yard.count(5), 1000 * coins);
            due.is("PRESSED", yard.count(4), 1000);
        }
        due.says("the PRICE at its TICK: a later one changes nothing of that");
        GasYard yard = new GasYard();
        yard.bank(100, 0, 400);
        yard.pass(1);
        yard.price(0, 99);
        due.is("coins", yard.count(5), 20);
        yard.pass(1);
        due.is("coins", yard.count(5), 20 + 20 * 99);
        due.says("the most coins and units there can be");
        GasYard most = Due.under("press 500");
        most.bank(100, 0, 400);
        for (int hour = 0; hour < 24; hour++) {
            most.price(hour, 99);
        }
        for (int turn = 0; turn < 124; turn++) {
            most.pass(80);
            due.is("all of it leaks", most.reading(0, 0), 40000);
        }
        due.is("PRESSED", most.count(4), 124 * 40000);
        due.is("coins", most.count(5), 124 * 40000 * 99);
        due.is("LEAKED", most.count(6), 124 * 40000);
        due.is("ALL GAS", most.count(8), 124 * 40000);
    }

    private static void allGas() {
        due.says("ALL GAS: what BANKS were told with, what CARS came with, PRESSED, FOUND, is what BANKS have, "
                + "CARS have (also those that went), LEAKED");
        GasYard yard = Due.under("flow 0 40;warm 1;switch 3");
        yard.bank(10, 1500, 160);
        yard.bank(20, 5003, 260);
        yard.hoses(2);
        int told = 1500 + 5003;
        for (int k = 0; k < 6; k++) {
            yard.car(3 + k, 11 * k, 100 + k);
            told += 11 * k;
            yard.pass(7);
            yard.reading(k % 2, 120 + 20 * k);
            int has = yard.banks(0, 0) + yard.banks(1, 0) + yard.count(6);
            for (int car = 0; car <= k; car++) {
                has += yard.cars(car, 1);
            }
            due.is("ALL GAS by where it is", yard.count(8), has);
            due.is("ALL GAS by where it is from", yard.count(8), told + yard.count(4) + yard.count(7));
        }
        due.is("some went", yard.cars(0, 0) > 1, true);
        due.is("some LEAKED", yard.count(6) > 0, true);
        due.is("some was FOUND", yard.count(7) > 0, true);
    }
}
