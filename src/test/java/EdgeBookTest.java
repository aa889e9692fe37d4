/** The TAPE and the BOOK of rules at their edges: each number's ends, each FAULT at each place it can have. */
public final class EdgeBookTest {
    private static final Due due = new Due();
    private static final String EIGHT =
            "flow 0 1;flow 1 1;flow 2 1;flow 3 1;flow 4 1;flow 5 1;flow 6 1;flow 7 1";

    public static void main(String[] args) {
        tapeFills();
        tapeOfOddLength();
        tapeEnds();
        bytesInOrder();
        longestText();
        numbersAtTheirEnds();
        numbersBeyond();
        flowNumbersAtTheirEnds();
        flowsRise();
        withoutWhatIsNotTold();
        withoutWhatOlderBooksTold();
        blanksAlone();
        blanksBetween();
        digits();
        bytesThatCantStandFirst();
        bytesThatCantStandBehindAWord();
        bytesThatCantStandBehindANumber();
        bytesThatCantStandBehindASemicolon();
        bytesThatCantStandBehindD();
        wordsThatCantStand();
        endThatCantStand();
        toldTwice();
        ninthFlow();
        firstFaultAlong();
        faultLeavesTheBook();
        emptyThen();
        flowAtADifference();
        due.end();
    }

    private static void good(String text, int clauses) {
        due.is("book of '" + text + "'", Due.book(new GasYard(), text), clauses);
    }

    private static void fault(String text, int place, int kind) {
        due.is("book of '" + text + "'", Due.book(new GasYard(), text), -2 - (1 + 8 * place + kind));
    }

    private static void tapeFills() {
        due.says("Twenty bytes come behind the TAPE; NONE, and none comes: it would have more than 200");
        GasYard yard = new GasYard();
        due.is("empty at first", yard.count(9), 0);
        for (int n = 20; n <= 200; n += 20) {
            due.is("feed", yard.feed(0, 0, 0, 0, 0), n);
            due.is("bytes", yard.count(9), n);
        }
        due.is("20 more", yard.feed(0, 0, 0, 0, 0), GasYard.NONE);
        due.is("bytes stay", yard.count(9), 200);
    }

    private static void tapeOfOddLength() {
        due.says("feed: it would have more than 200, from a length that is no multiple of 20");
        for (int length = 176; length <= 184; length++) {
            GasYard yard = new GasYard();
            for (int k = 0; k < 10; k++) {
                yard.feed(0, 0, 0, 0, 0);
            }
            due.is("end", yard.end(length), length);
            due.is("feed behind " + length, yard.feed(0, 0, 0, 0, 0), length <= 180 ? length + 20 : GasYard.NONE);
            due.is("bytes", yard.count(9), length <= 180 ? length + 20 : length);
        }
    }

    private static void tapeEnds() {
        due.says("The TAPE has its first n bytes alone: n; NONE if it has not so many, or n is below 0");
        GasYard yard = new GasYard();
        due.is("end(0) of an empty one", yard.end(0), 0);
        due.is("end(1) of an empty one", yard.end(1), GasYard.NONE);
        yard.feed(0, 0, 0, 0, 0);
        for (int n : new int[] {Integer.MIN_VALUE, -1, 21, 200, Integer.MAX_VALUE}) {
            due.is("end(" + n + ")", yard.end(n), GasYard.NONE);
            due.is("bytes stay", yard.count(9), 20);
        }
        due.is("end(20)", yard.end(20), 20);
        due.is("end(19)", yard.end(19), 19);
        due.is("end(20) then", yard.end(20), GasYard.NONE);
        due.is("end(0)", yard.end(0), 0);
        due.is("bytes", yard.count(9), 0);
    }

    private static void bytesInOrder() {
        due.says("of each number the highest first");
        GasYard yard = new GasYard();
        due.is("feed", yard.feed(0x7761726D, 0x2037363B, 0x636F6F6C, 0x2038353B, 0x70726573), 20);
        due.is("the next twenty behind them", yard.feed(0x73203432, 0x203B6C69, 0x6D697420, 0x36303B73, 0x77697463), 40);
        due.is("and more", yard.feed(0x68203900, -1, -1, -1, -1), 60);
        yard.end(43);
        due.is("book", yard.book(), 5);
        due.is("warm", yard.count(10), 76);
        due.is("cool", yard.count(11), 85);
        due.is("limit", yard.count(12), 60);
        due.is("press", yard.count(13), 42);
        due.is("switch", yard.count(14), 9);
        due.says("end cuts: what was behind n is not read, what is fed then comes behind n");
        yard.feed(0x7761726D, 0x20313939, -1, -1, -1);
        yard.end(6);
        yard.feed(0x303B636F, 0x6F6C2037, -1, -1, -1);
        yard.end(14);
        due.is("book of 'warm 10;cool 7'", yard.book(), 2);
        due.is("warm", yard.count(10), 10);
        due.is("cool", yard.count(11), 7);
    }

    private static void longestText() {
        due.says("a text of at most 200 bytes");
        GasYard yard = new GasYard();
        due.is("warm in the last bytes", Due.book(yard, " ".repeat(193) + "warm 77"), 1);
        due.is("warm", yard.count(10), 77);
        due.is("200 blanks", Due.book(yard, " ".repeat(200)), 0);
        due.is("warm as without", yard.count(10), 10);
        due.is("a number 190 blanks behind", Due.book(yard, "warm" + " ".repeat(195) + "5"), 1);
        due.is("warm", yard.count(10), 5);
        fault(" ".repeat(199) + ";", 199, 0);
        fault("warm 1" + " ".repeat(193) + ";", 200, 0);
        fault("warm" + " ".repeat(196), 200, 0);
        fault("a".repeat(200), 0, 0);
        fault("warm " + "0".repeat(195), 5, 1);
        fault("warm 1;".repeat(28), 7, 2);
        good(EIGHT + ";warm 1;cool 1;limit 1;press 1;switch 1" + " ".repeat(87), 13);
    }

    private static final String[] WORDS = {"warm", "cool", "limit", "press", "switch"};
    private static final int[] LOWS = {0, 1, 0, 0, 1};
    private static final int[] TOPS = {100, 100, 200, 500, 500};
    private static final int[] WITHOUT = {10, 10, 85, 20, 1};

    private static void numbersAtTheirEnds() {
        due.says("warm n (0 to 100), cool n (1 to 100), limit n (0 to 200), press n (0 to 500), switch n (1 to 500)");
        for (int k = 0; k < WORDS.length; k++) {
            for (int n : new int[] {LOWS[k], LOWS[k] + 1, TOPS[k] - 1, TOPS[k]}) {
                GasYard yard = new GasYard();
                due.is(WORDS[k] + " " + n, Due.book(yard, WORDS[k] + " " + n), 1);
                due.is(WORDS[k], yard.count(10 + k), n);
            }
        }
    }

    private static void numbersBeyond() {
        due.says("1 a NUMBER not as told: below or above its range");
        for (int k = 0; k < WORDS.length; k++) {
            int place = WORDS[k].length() + 1;
            fault(WORDS[k] + " " + (TOPS[k] + 1), place, 1);
            fault(WORDS[k] + " 999", place, 1);
            if (LOWS[k] > 0) {
                fault(WORDS[k] + " 0", place, 1);
                fault(WORDS[k] + " 000", place, 1);
            }
            fault(" " + WORDS[k] + "  " + (TOPS[k] + 1) + " ", place + 2, 1);
        }
    }

    private static void flowNumbersAtTheirEnds() {
        due.says("flow d f (d 0 to 400, f 0 to 500)");
        int[][] ends = {{0, 0}, {0, 500}, {400, 0}, {400, 500}, {399, 499}, {1, 1}};
        for (int[] end : ends) {
            GasYard yard = Due.under("flow " + end[0] + " " + end[1]);
            due.is("FLOW at " + end[0], yard.flow(end[0]), end[1]);
            due.is("FLOW just below", yard.flow(end[0] - 1), 0);
            due.is("FLOW at 400", yard.flow(400), end[1]);
        }
        fault("flow 401 0", 5, 1);
        fault("flow 999 0", 5, 1);
        fault("flow 400 501", 9, 1);
        fault("flow 0 999", 7, 1);
        fault("flow 401 501", 5, 1);
    }

    private static void flowsRise() {
        due.says("each d above that of the one ahead");
        good("flow 0 9;flow 1 9", 2);
        good("flow 399 9;flow 400 0", 2);
        fault("flow 1 9;flow 1 9", 14, 1);
        fault("flow 1 9;flow 0 9", 14, 1);
        fault("flow 0 9;flow 0 8", 14, 1);
        fault("flow 400 9;flow 400 9", 16, 1);
        fault("flow 0 9;flow 5 9;flow 5 9", 23, 1);
        fault("flow 0 9;flow 5 9;flow 3 9", 23, 1);
        due.says("the one ahead, also with other CLAUSES between");
        good("flow 3 9;warm 1;cool 1;flow 4 9", 4);
        fault("flow 3 9;warm 1;cool 1;flow 3 9", 28, 1);
        due.says("8 of these at most");
        GasYard yard = new GasYard();
        due.is("eight", Due.book(yard, "flow 0 1;flow 50 2;flow 100 3;flow 150 4;flow 200 5;"
                + "flow 250 6;flow 300 7;flow 400 8"), 8);
        int[][] wants = {{0, 1}, {49, 1}, {50, 2}, {99, 2}, {100, 3}, {150, 4}, {200, 5}, {250, 6}, {299, 6},
            {300, 7}, {399, 7}, {400, 8}};
        for (int[] want : wants) {
            due.is("FLOW at " + want[0], yard.flow(want[0]), want[1]);
        }
    }

    private static void withoutWhatIsNotTold() {
        for (int told = 0; told < WORDS.length; told++) {
            due.says("warm 10 without, cool 10, limit 85, press 20, switch 1; without any flow: 0 20");
            GasYard yard = Due.under("flow 3 4;warm 90;cool 91;limit 92;press 93;switch 94");
            due.is(WORDS[told] + " alone", Due.book(yard, WORDS[told] + " 77"), 1);
            for (int k = 0; k < WORDS.length; k++) {
                due.is(WORDS[k], yard.count(10 + k), k == told ? 77 : WITHOUT[k]);
            }
            due.is("FLOW at 0", yard.flow(0), 20);
            due.is("FLOW at 400", yard.flow(400), 20);
        }
        GasYard yard = Due.under("warm 90;cool 91;limit 92;press 93;switch 94");
        due.is("flow alone", Due.book(yard, "flow 3 4"), 1);
        for (int k = 0; k < WORDS.length; k++) {
            due.is(WORDS[k], yard.count(10 + k), WITHOUT[k]);
        }
        due.says("with a flow, 0 20 is not told");
        due.is("FLOW at 2", yard.flow(2), 0);
    }

    private static void withoutWhatOlderBooksTold() {
        due.says("all as without, whatever BOOKS and FAULTS were ahead");
        for (int books = 1; books <= 4; books++) {
            GasYard yard = new GasYard();
            for (int k = 0; k < books; k++) {
                Due.book(yard, "flow 3 4;warm 90;cool 91;limit 92;press 93;switch 94");
            }
            due.is("a FAULT behind all of them", Due.book(yard,
                    "flow 5 6;warm 80;cool 81;limit 82;press 83;switch 84;x"), -2 - (1 + 8 * 53));
            due.is("blanks", Due.book(yard, " "), 0);
            for (int k = 0; k < WORDS.length; k++) {
                due.is(WORDS[k] + " behind " + books, yard.count(10 + k), WITHOUT[k]);
            }
            due.is("FLOW at 0 behind " + books, yard.flow(0), 20);
        }
    }

    private static void blanksAlone() {
        due.says("A text of blanks alone: all as without");
        for (int blanks : new int[] {0, 1, 2, 20, 199}) {
            GasYard yard = Due.under("flow 3 4;warm 90;cool 91;limit 92;press 93;switch 94");
            due.is(blanks + " blanks", Due.book(yard, " ".repeat(blanks)), 0);
            for (int k = 0; k < WORDS.length; k++) {
                due.is(WORDS[k], yard.count(10 + k), WITHOUT[k]);
            }
            due.is("FLOW at 0", yard.flow(0), 20);
        }
    }

    private static void blanksBetween() {
        due.says("blanks (32) between");
        good("  flow   1   2  ;  warm   3  ", 2);
        good("flow 1 2;warm 3", 2);
        good("flow 1 2 ;warm 3", 2);
        good("flow 1 2; warm 3", 2);
        fault("wa rm 3", 0, 0);
        fault("warm 3 ;; cool 1", 8, 0);
        due.says("blanks part NUMBERS: digits go on no farther");
        GasYard yard = Due.under("flow 1 23");
        due.is("FLOW at 1", yard.flow(1), 23);
        Due.book(yard, "flow 12 3");
        due.is("FLOW at 12", yard.flow(12), 3);
        fault("flow 123", 8, 0);
        fault("warm 1 2", 7, 0);
    }

    private static void digits() {
        due.says("NUMBERS 1 to 3 digits (as far as digits go on); of more digits, too: 1");
        for (String number : new String[] {"7", "07", "007"}) {
            GasYard yard = Due.under("warm " + number);
            due.is("warm " + number, yard.count(10), 7);
        }
        for (String number : new String[] {"0007", "0000", "1000", "00007", "9999", "4294967303", "18446744073709551623"}) {
            fault("warm " + number, 5, 1);
            fault("flow " + number + " 1", 5, 1);
            fault("flow 0 " + number, 7, 1);
        }
        GasYard yard = Due.under("flow 000 000;flow 001 010;flow 400 500");
        due.is("FLOW at 0", yard.flow(0), 0);
        due.is("FLOW at 1", yard.flow(1), 10);
        due.is("FLOW at 400", yard.flow(400), 500);
        due.says("as far as digits go on: another byte ends a NUMBER, and can't stand there");
        fault("warm 1x", 6, 0);
        fault("warm 1.5", 6, 0);
        fault("warm 101x", 5, 1);
        fault("warm 1000x", 5, 1);
    }

    private static void bytesThatCantStandFirst() {
        due.says("0 a byte that can't stand there: ahead of a WORD");
        for (int b = 0; b < 256; b++) {
            if (b == ' ') {
                continue;
            }
            fault((char) b + "warm 1", 0, 0);
            fault("  " + (char) b, 2, 0);
        }
    }

    private static void bytesThatCantStandBehindAWord() {
        due.says("0 a byte that can't stand there: where a NUMBER must");
        for (int b = 0; b < 256; b++) {
            if (b >= '0' && b <= '9' || b == ' ') {
                continue;
            }
            fault("limit " + (char) b, 6, 0);
            fault("flow 1 " + (char) b + "5", 7, 0);
            // another small letter makes another WORD of it
            fault("limit" + (char) b + "1", b >= 'a' && b <= 'z' ? 0 : 5, 0);
        }
    }

    private static void bytesThatCantStandBehindANumber() {
        due.says("0 a byte that can't stand there: behind a CLAUSE");
        for (int b = 0; b < 256; b++) {
            if (b == ';' || b == ' ' || b >= '0' && b <= '9') {
                continue;
            }
            fault("cool 1" + (char) b, 6, 0);
            fault("flow 1 1 " + (char) b, 9, 0);
        }
        for (char digit = '0'; digit <= '9'; digit++) {
            fault("cool 1 " + digit, 7, 0);
        }
    }

    private static void bytesThatCantStandBehindASemicolon() {
        due.says("0 a byte that can't stand there: behind ';'");
        for (int b = 0; b < 256; b++) {
            if (b >= 'a' && b <= 'z' || b == ' ') {
                continue;
            }
            fault("cool 1;" + (char) b + "warm 1", 7, 0);
        }
    }

    private static void bytesThatCantStandBehindD() {
        due.says("0 a byte that can't stand there: where the f of a flow must");
        for (int b = 0; b < 256; b++) {
            if (b >= '0' && b <= '9' || b == ' ') {
                continue;
            }
            fault("flow 1" + (char) b, 6, 0);
        }
    }

    private static void wordsThatCantStand() {
        due.says("0 a WORD that can't stand there");
        String[] all = {"flow", "warm", "cool", "limit", "press", "switch"};
        for (String word : all) {
            for (int cut = 1; cut < word.length(); cut++) {
                fault(word.substring(0, cut) + " 1 1", 0, 0);
            }
            for (int k = 0; k < word.length(); k++) {
                fault(word.substring(0, k) + "q" + word.substring(k + 1) + " 1 1", 0, 0);
            }
            fault(word + "s 1 1", 0, 0);
            fault("s" + word + " 1 1", 0, 0);
            fault("press 1; " + word + word + " 1 1", 9, 0);
            fault("limit 1 " + word, 8, 0);
            fault("limit " + word, 6, 0);
            fault("flow 1 " + word, 7, 0);
        }
        due.says("WORDS are small letters");
        fault("WARM 1", 0, 0);
        fault("Warm 1", 0, 0);
        fault("warM 1", 0, 0);
    }

    private static void endThatCantStand() {
        due.says("0 the end (behind the last byte)");
        for (String word : new String[] {"flow", "warm", "cool", "limit", "press", "switch"}) {
            fault(word, word.length(), 0);
            fault("  " + word + "   ", word.length() + 5, 0);
        }
        fault("flow 1", 6, 0);
        fault("flow 1  ", 8, 0);
        fault("warm 1;", 7, 0);
        fault("warm 1 ;  ", 10, 0);
        fault("flow 1 1;", 9, 0);
        due.says("where the end may stand");
        good("warm 1", 1);
        good("warm 1  ", 1);
        good("flow 1 1", 1);
    }

    private static void toldTwice() {
        due.says("all but flow once at most; 2 a CLAUSE told twice (at its WORD)");
        for (String word : new String[] {"warm", "cool", "limit", "press", "switch"}) {
            int second = word.length() + 3;
            fault(word + " 1;" + word + " 1", second, 2);
            fault(word + " 1;" + word + " 2", second, 2);
            fault(word + " 1;  " + word + " 2", second + 2, 2);
            fault(word + " 1;flow 1 1;" + word + " 2", second + 9, 2);
            due.says("2 a CLAUSE told twice: whatever stands behind its WORD");
            fault(word + " 1;" + word, second, 2);
            fault(word + " 1;" + word + ";", second, 2);
            fault(word + " 1;" + word + " 1000", second, 2);
            fault(word + " 1;" + word + " x", second, 2);
            fault(word + " 1;" + word + "x 1", second, 0);
        }
        due.says("each of the five may stand once, in any order");
        good("switch 1;press 1;limit 1;cool 1;warm 1", 5);
        good("press 1;warm 1;flow 1 1;switch 1;cool 1;flow 2 1;limit 1", 7);
        due.says("told twice counts in one text alone");
        GasYard yard = Due.under("warm 1");
        due.is("warm in the next text", Due.book(yard, "warm 2"), 1);
        due.is("warm twice in one", Due.book(yard, "warm 1;warm 2"), -2 - (1 + 8 * 7 + 2));
        due.is("warm in the text behind that", Due.book(yard, "warm 3"), 1);
        due.is("warm", yard.count(10), 3);
    }

    private static void ninthFlow() {
        due.says("2 the ninth flow (at its WORD)");
        good(EIGHT, 8);
        fault(EIGHT + ";flow 8 1", 72, 2);
        fault(EIGHT + "; flow 8 1", 73, 2);
        fault(EIGHT + ";flow 7 1", 72, 2);
        fault(EIGHT + ";flow", 72, 2);
        fault(EIGHT + ";warm 1;flow 8 1", 79, 2);
        fault(EIGHT + ";flows 8 1", 72, 0);
        due.says("the ninth counts in one text alone");
        GasYard yard = Due.under(EIGHT);
        due.is("eight again", Due.book(yard, EIGHT), 8);
    }

    private static void firstFaultAlong() {
        due.says("FAULTS, the first along it");
        fault("warm 101;cool 0;limit 1;limit 1;x", 5, 1);
        fault("warm 1;warm 101;x", 7, 2);
        fault("x;warm 101", 0, 0);
        fault("warm 1;cool 0;warm 1", 12, 1);
        fault("flow 401 501", 5, 1);
        fault("flow 400 501;flow 400 501", 9, 1);
        fault("flow 5 x;flow 5 1", 7, 0);
    }

    private static void faultLeavesTheBook() {
        due.says("-2 - its FAULT (then that one stays)");
        String[] wrong = {"x", "warm 5;", "flow 0 9;warm 6;cool 7;limit 8;press 9;switch 10;switch 11", "flow 3 5;flow 3 5",
            EIGHT + ";flow 8 1", "warm 101", "cool", "warm 5 cool 6"};
        GasYard yard = Due.under("flow 3 4;warm 90;cool 91;limit 92;press 93;switch 94");
        for (String text : wrong) {
            due.is("a FAULT in '" + text + "'", Due.book(yard, text) <= -3, true);
            for (int k = 0; k < WORDS.length; k++) {
                due.is(WORDS[k], yard.count(10 + k), 90 + k);
            }
            due.is("FLOW at 2", yard.flow(2), 0);
            due.is("FLOW at 3", yard.flow(3), 4);
            due.is("FLOW at 400", yard.flow(400), 4);
        }
    }

    private static void emptyThen() {
        due.says("book: The TAPE, which is empty then");
        GasYard yard = new GasYard();
        Due.book(yard, "warm 5");
        due.is("bytes behind a BOOK", yard.count(9), 0);
        Due.book(yard, "warm 5;");
        due.is("bytes behind a FAULT", yard.count(9), 0);
        due.is("end(1) then", yard.end(1), GasYard.NONE);
        yard.feed(0x20202020, 0x20202020, 0x20202020, 0x20202020, 0x20202020);
        due.is("bytes of a new TAPE", yard.count(9), 20);
        due.is("a new TAPE has none of the old bytes", yard.book(), 0);
    }

    private static void flowAtADifference() {
        due.says("FLOW: that of the greatest d not above it (0 if none is, or it is below 0)");
        GasYard yard = Due.under("flow 10 300;flow 11 0;flow 200 2");
        int[][] wants = {{-400, 0}, {-10, 0}, {-1, 0}, {0, 0}, {9, 0}, {10, 300}, {11, 0}, {199, 0}, {200, 2}, {400, 2}};
        for (int[] want : wants) {
            due.is("FLOW at " + want[0], yard.flow(want[0]), want[1]);
        }
    }
}
