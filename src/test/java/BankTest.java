/** Promises 2 (bank), 3 (target), 15 (reading), 16 (slip), 19 (banks). */
public final class BankTest {
    private static final Due due = new Due();
    private static final int NO_READING = -1000000;

    public static void main(String[] args) {
        toldBanks();
        wrongBanks();
        targets();
        readings();
        slips();
        due.end();
    }

    private static void toldBanks() {
        GasYard yard = new GasYard();
        due.is("least bank", yard.bank(1, 0, 0), 0);
        due.is("greatest bank", yard.bank(100, 40000, 400), 1);
        due.is("bank with a rest", yard.bank(7, 20, 5), 2);
        due.is("fourth bank", yard.bank(3, 3, 3), 3);
        due.is("fifth bank", yard.bank(3, 3, 3), GasYard.NONE);
        due.is("count of banks", yard.count(1), 4);
        due.banksAre(yard, 0, 0, 0, 0, 0, 0, 0, -1);
        due.banksAre(yard, 1, 40000, 400, 400, 0, 0, 0, -1);
        due.banksAre(yard, 2, 20, 2, 5, 0, 0, 0, -1);
        due.banksAre(yard, 4, -1, -1, -1, -1, -1, -1);
        due.is("banks(-1, 0)", yard.banks(-1, 0), -1);
        due.is("banks(0, -1)", yard.banks(0, -1), -1);
        due.is("banks(MIN, 0)", yard.banks(Integer.MIN_VALUE, 0), -1);
        due.is("banks(MAX, 0)", yard.banks(Integer.MAX_VALUE, 0), -1);
    }

    private static void wrongBanks() {
        GasYard yard = new GasYard();
        int[][] wrong = {
            {0, 0, 0}, {101, 0, 0}, {-1, 0, 0}, {1, -1, 0}, {1, 401, 0}, {100, 40001, 0}, {1, 0, -1}, {1, 0, 401},
            {Integer.MAX_VALUE, 0, 0}, {Integer.MIN_VALUE, 0, 0}, {1, Integer.MAX_VALUE, 0}, {1, Integer.MIN_VALUE, 0},
        };
        for (int[] told : wrong) {
            due.is("wrong bank", yard.bank(told[0], told[1], told[2]), GasYard.NONE);
        }
        due.is("no bank", yard.count(1), 0);
        due.is("no gas", yard.count(8), 0);
        due.is("bank behind wrong ones", yard.bank(1, 400, 400), 0);
    }

    private static void targets() {
        GasYard yard = new GasYard();
        due.is("target without the bank", yard.target(0, 5), GasYard.NONE);
        yard.bank(2, 10, 7);
        due.is("target", yard.target(0, 400), 7);
        due.is("target again", yard.target(0, 0), 400);
        for (int pressure : new int[] {-1, 401, Integer.MIN_VALUE, Integer.MAX_VALUE}) {
            due.is("wrong target", yard.target(0, pressure), GasYard.NONE);
        }
        due.is("target(1, 5)", yard.target(1, 5), GasYard.NONE);
        due.is("target(-1, 5)", yard.target(-1, 5), GasYard.NONE);
        due.is("target stays", yard.banks(0, 2), 0);
        yard.pass(1);
        due.is("above its target nothing is pressed", yard.banks(0, 0), 10);
    }

    private static void readings() {
        GasYard yard = new GasYard();
        yard.bank(10, 1009, 0);
        due.is("below by slip", yard.reading(0, 98), 0);
        due.is("above by slip", yard.reading(0, 102), 0);
        due.is("content stays", yard.banks(0, 0), 1009);
        due.is("below by more", yard.reading(0, 97), 39);
        due.is("content as read", yard.banks(0, 0), 970);
        due.is("above by more", yard.reading(0, 100), -30);
        due.is("content as found", yard.banks(0, 0), 1000);
        due.is("all of it leaks", yard.reading(0, 0), 1000);
        due.is("the greatest is found", yard.reading(0, 400), -4000);
        due.is("leaked", yard.count(6), 1039);
        due.is("found", yard.count(7), 4030);
        due.is("all gas", yard.count(8), 1009 + 4030);
        due.is("drawn is not told by leaks", yard.banks(0, 3), 0);
        due.is("pressed is not told by finds", yard.banks(0, 4), 0);
        for (int pressure : new int[] {-1, 401, Integer.MIN_VALUE, Integer.MAX_VALUE}) {
            due.is("wrong reading", yard.reading(0, pressure), NO_READING);
        }
        due.is("reading(1, 5)", yard.reading(1, 5), NO_READING);
        due.is("reading(-1, 5)", yard.reading(-1, 5), NO_READING);
        due.is("nothing happened", yard.banks(0, 0), 4000);
    }

    private static void slips() {
        GasYard yard = new GasYard();
        yard.bank(10, 1009, 0);
        due.is("slip(0)", yard.slip(0), 2);
        due.is("the pressure itself, without slip", yard.reading(0, 100), 0);
        due.is("one above, without slip", yard.reading(0, 101), -1);
        due.is("slip(50)", yard.slip(50), 0);
        for (int pressure : new int[] {-1, 51, Integer.MIN_VALUE, Integer.MAX_VALUE}) {
            due.is("wrong slip", yard.slip(pressure), GasYard.NONE);
        }
        due.is("slip of 50 down", yard.reading(0, 51), 0);
        due.is("slip of 50 up", yard.reading(0, 151), 0);
        due.is("more than 50", yard.reading(0, 50), 510);
        due.is("slip stays", yard.slip(3), 50);
    }
}
