/** Promises 6 (feed), 7 (end), 8 (book), 9 (flow). */
public final class BookTest {
    private static final Due due = new Due();

    public static void main(String[] args) {
        tape();
        goodBooks();
        edges();
        faults();
        faultsLeaveTheBook();
        flows();
        due.end();
    }

    private static void tape() {
        GasYard yard = new GasYard();
        for (int n = 20; n <= 200; n += 20) {
            due.is("feed", yard.feed(0x20202020, 0x20202020, 0x20202020, 0x20202020, 0x20202020), n);
        }
        due.is("feed beyond 200", yard.feed(0, 0, 0, 0, 0), GasYard.NONE);
        due.is("tape stays", yard.count(9), 200);
        due.is("end(201)", yard.end(201), GasYard.NONE);
        due.is("end(-1)", yard.end(-1), GasYard.NONE);
        due.is("end(MIN)", yard.end(Integer.MIN_VALUE), GasYard.NONE);
        due.is("end(MAX)", yard.end(Integer.MAX_VALUE), GasYard.NONE);
        due.is("end(200)", yard.end(200), 200);
        due.is("end(181)", yard.end(181), 181);
        due.is("feed of 20 more than 200", yard.feed(0, 0, 0, 0, 0), GasYard.NONE);
        due.is("end(180)", yard.end(180), 180);
        due.is("feed up to 200", yard.feed(0, 0, 0, 0, 0), 200);
        due.is("end(180) again", yard.end(180), 180);
        due.is("180 blanks", yard.book(), 0);
        due.is("empty then", yard.count(9), 0);
        due.is("end(0) of none", yard.end(0), 0);
        due.is("end(1) of none", yard.end(1), GasYard.NONE);
        // the highest byte of each number comes first
        yard.feed('w' << 24 | 'a' << 16 | 'r' << 8 | 'm', ' ' << 24 | '4' << 16 | '2' << 8 | ' ',
                0x20202020, 0x20202020, 0x20202020);
        due.is("bytes in order", yard.book(), 1);
        due.is("warm", yard.count(10), 42);
        yard.feed(-1, 0, 0, 0, 0);
        due.is("byte 255", yard.book(), -3);
        due.is("empty behind a fault", yard.count(9), 0);
    }

    private static void goodBooks() {
        GasYard yard = new GasYard();
        due.is("all clauses", Due.book(yard,
                "flow 10 5; flow 50 30;warm 4;cool 5;limit 40;press 10;switch 2"), 7);
        bookIs(yard, 4, 5, 40, 10, 2);
        due.is("flow(9)", yard.flow(9), 0);
        due.is("flow(10)", yard.flow(10), 5);
        due.is("flow(49)", yard.flow(49), 5);
        due.is("flow(50)", yard.flow(50), 30);
        due.is("what is not told is as without", Due.book(yard, "  limit  7  "), 1);
        bookIs(yard, 10, 10, 7, 20, 1);
        due.is("flow as without", yard.flow(0), 20);
        Due.book(yard, "warm 0;switch 500;press 0");
        bookIs(yard, 0, 10, 85, 0, 500);
        due.is("blanks alone", Due.book(yard, "   "), 0);
        bookIs(yard, 10, 10, 85, 20, 1);
        Due.book(yard, "warm 1");
        due.is("no byte at all", yard.book(), 0);
        bookIs(yard, 10, 10, 85, 20, 1);
        due.is("flows apart", Due.book(yard, "flow 0 1;warm 3;flow 1 2"), 3);
        due.is("flow(0)", yard.flow(0), 1);
        due.is("flow(1)", yard.flow(1), 2);
        due.is("eight flows and all others", Due.book(yard, "flow 0 1;flow 1 1;flow 2 1;flow 3 1;flow 4 1;"
                + "flow 5 1;flow 6 1;flow 7 1;warm 1;cool 1;limit 1;press 1;switch 1"), 13);
    }

    private static void bookIs(GasYard yard, int... wants) {
        for (int what = 0; what < wants.length; what++) {
            due.is("count(" + (10 + what) + ")", yard.count(10 + what), wants[what]);
        }
    }

    private static void edges() {
        String[] good = {
            "warm 0", "warm 100", "cool 1", "cool 100", "limit 0", "limit 200", "press 0", "press 500",
            "switch 1", "switch 500", "flow 0 0", "flow 400 500", "limit 085", "warm 000", "warm 1 ", " warm 1",
        };
        for (String text : good) {
            due.is(text, Due.book(new GasYard(), text), 1);
        }
        String[] beyond = {"warm 101", "cool 0", "cool 101", "limit 201", "press 501", "switch 0", "switch 501",
            "flow 401 1", "warm 0001", "limit 0085", "warm 4294967297"};
        for (String text : beyond) {
            fault(text, text.indexOf(' ') + 1, 1);
        }
        fault("flow 5 501", 7, 1);
        fault("flow 5 0001", 7, 1);
        fault("flow 5 1;flow 5 2", 14, 1);
        fault("flow 5 1;warm 1;flow 4 2", 21, 1);
        fault("flow 400 1;flow 400 1", 16, 1);
    }

    private static void faults() {
        fault(";", 0, 0);
        fault("  ;", 2, 0);
        fault("warms 1", 0, 0);
        fault("war 1", 0, 0);
        fault("farm 1", 0, 0);
        fault("wart 1", 0, 0);
        fault("glow 1 1", 0, 0);
        fault("slow", 0, 0);
        fault("flowflow 1 1", 0, 0);
        fault("Warm 1", 0, 0);
        fault("warM 1", 0, 0);
        fault("warm", 4, 0);
        fault("warm  ", 6, 0);
        fault("warm -1", 5, 0);
        fault("warm x", 5, 0);
        fault("warm;", 4, 0);
        fault("warm\t1", 4, 0);
        fault("flow 5", 6, 0);
        fault("flow 5;", 6, 0);
        fault("flow 5 x", 7, 0);
        fault("flow 5 5 5", 9, 0);
        fault("warm 1 1", 7, 0);
        fault("cool 1;", 7, 0);
        fault("cool 1; ", 8, 0);
        fault("cool 1;;warm 1", 7, 0);
        fault("cool 1 warm 2", 7, 0);
        fault("cool 1,warm 2", 6, 0);
        fault("cool 1\0", 6, 0);
        fault("1", 0, 0);
        fault("cool 1;cool 2", 7, 2);
        fault("cool 1;cool", 7, 2);
        fault("cool 1; cool 1000", 8, 2);
        fault("warm 1;warm 1", 7, 2);
        fault("limit 1;limit 1", 8, 2);
        fault("press 1;press 1", 8, 2);
        fault("switch 1;switch 1", 9, 2);
        fault("flow 0 1;flow 1 1;flow 2 1;flow 3 1;flow 4 1;flow 5 1;flow 6 1;flow 7 1;flow 8 1", 72, 2);
        fault("flow 0 1;flow 1 1;flow 2 1;flow 3 1;flow 4 1;flow 5 1;flow 6 1;flow 7 1;flow x", 72, 2);
        fault("warm 101;cool 0;x", 5, 1);
        String blanks = " ".repeat(199);
        fault(blanks + "x", 199, 0);
        fault("warm" + " ".repeat(196), 200, 0);
    }

    private static void fault(String text, int place, int kind) {
        GasYard yard = new GasYard();
        due.is("book of '" + text + "'", Due.book(yard, text), -2 - (1 + 8 * place + kind));
        due.is("tape behind '" + text + "'", yard.count(9), 0);
    }

    private static void faultsLeaveTheBook() {
        GasYard yard = new GasYard();
        Due.book(yard, "flow 3 4;warm 1;cool 2;limit 3;press 4;switch 5");
        Due.book(yard, "flow 0 9;warm 6;cool 7;limit 8;press 9;switch 10;");
        bookIs(yard, 1, 2, 3, 4, 5);
        due.is("flow(2) stays", yard.flow(2), 0);
        due.is("flow(3) stays", yard.flow(3), 4);
        due.is("a good one again", Due.book(yard, "warm 7"), 1);
        bookIs(yard, 7, 10, 85, 20, 1);
    }

    private static void flows() {
        GasYard yard = new GasYard();
        due.is("flow(-401)", yard.flow(-401), GasYard.NONE);
        due.is("flow(401)", yard.flow(401), GasYard.NONE);
        due.is("flow(MIN)", yard.flow(Integer.MIN_VALUE), GasYard.NONE);
        due.is("flow(MAX)", yard.flow(Integer.MAX_VALUE), GasYard.NONE);
        due.is("flow(-400)", yard.flow(-400), 0);
        Due.book(yard, "flow 0 100;flow 10 7;flow 400 500");
        int[] at = {-400, -1, 0, 9, 10, 399, 400};
        int[] wants = {0, 0, 100, 100, 7, 7, 500};
        for (int k = 0; k < at.length; k++) {
            due.is("flow(" + at[k] + ")", yard.flow(at[k]), wants[k]);
        }
    }
}
