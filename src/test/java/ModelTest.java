import java.util.Random;

/** Runs of many calls, each answer compared with that of PlainYard; the runs are the same every time. */
public final class ModelTest {
    private static final int[] ODD = {-1, Integer.MIN_VALUE, Integer.MAX_VALUE, 1000, -1000, 65536, 600};
    private static final String[] PIECES = {"flow", "warm", "cool", "limit", "press", "switch", ";", ";", " ", "  ",
        "0", "1", "9", "20", "100", "400", "500", "501", "0001", "x", "W", "\u00e9", "\0", "warms", "flo"};

    private final Due due = new Due();
    private final Random random;
    private final int oddOneIn;
    private final GasYard yard = new GasYard();
    private final PlainYard plain = new PlainYard();
    private String call = "";

    private ModelTest(long seed) {
        random = new Random(seed);
        oddOneIn = seed % 2 == 0 ? 1000000 : 15;
    }

    public static void main(String[] args) {
        int runs = 1500;
        for (int seed = 0; seed < runs; seed++) {
            ModelTest test = new ModelTest(seed);
            for (int k = 0; k < 500 && !test.due.anyWrong(); k++) {
                test.step();
            }
            test.compareAll();
            if (test.due.anyWrong()) {
                System.out.println("in the run of seed " + seed);
                test.due.end();
            }
        }
        System.out.println(runs + " runs as the plain yard");
    }

    private int number(int low, int top) {
        if (random.nextInt(oddOneIn) == 0) {
            return random.nextBoolean() ? ODD[random.nextInt(ODD.length)] : random.nextBoolean() ? low - 1 : top + 1;
        }
        int kind = random.nextInt(12);
        return kind == 0 ? low : kind == 1 ? top : low + random.nextInt(top - low + 1);
    }

    private void compare(String name, long got, long want, int... args) {
        call = name + java.util.Arrays.toString(args);
        due.is(call, got, want);
    }

    private static int one(boolean is) {
        return is ? 1 : 0;
    }

    private void step() {
        int kind = random.nextInt(100);
        if (kind < 4) {
            int volume = number(1, random.nextBoolean() ? 5 : 100);
            int content = number(0, volume > 0 && volume <= 100 ? volume * 400 : 400);
            int target = number(0, 400);
            compare("bank", yard.bank(volume, content, target), plain.bank(volume, content, target),
                    volume, content, target);
        } else if (kind < 8) {
            int bank = number(0, 3);
            int pressure = number(0, 400);
            compare("target", yard.target(bank, pressure), plain.target(bank, pressure), bank, pressure);
        } else if (kind < 11) {
            int degrees = number(-30, 50);
            compare("air", yard.air(degrees), plain.air(degrees), degrees);
        } else if (kind < 14) {
            int n = number(1, 2);
            compare("hoses", yard.hoses(n), plain.hoses(n), n);
        } else if (kind < 24) {
            book();
        } else if (kind < 26) {
            int difference = number(-400, 400);
            compare("flow", yard.flow(difference), plain.flow(difference), difference);
        } else if (kind < 29) {
            int hour = number(0, 23);
            int coins = number(0, 99);
            compare("price", yard.price(hour, coins), plain.price(hour, coins), hour, coins);
        } else if (kind < 32) {
            int hour = number(0, 23);
            boolean is = random.nextInt(3) == 0;
            compare("closed", one(yard.closed(hour, is)), one(plain.closed(hour, is)), hour, one(is));
        } else if (kind < 40) {
            int what = number(0, 1);
            int k = number(0, what == 0 ? 3 : Math.max(1, yard.count(2)));
            boolean lost = random.nextInt(3) == 0;
            compare("sensor", one(yard.sensor(what, k, lost)), one(plain.sensor(what, k, lost)), what, k, one(lost));
        } else if (kind < 52) {
            int[] told = carNumbers();
            compare("car", yard.car(told[0], told[1], told[2]), plain.car(told[0], told[1], told[2]), told);
        } else if (kind < 70) {
            int ticks = number(1, random.nextInt(5) == 0 ? 500 : 5);
            compare("pass", yard.pass(ticks), plain.pass(ticks), ticks);
        } else if (kind < 74) {
            int bank = number(0, 3);
            int pressure = random.nextBoolean() ? number(0, 400) : number(0, 6) - 3 + yard.banks(bank, 1);
            compare("reading", yard.reading(bank, pressure), plain.reading(bank, pressure), bank, pressure);
        } else if (kind < 76) {
            int pressure = number(0, 50);
            compare("slip", yard.slip(pressure), plain.slip(pressure), pressure);
        } else if (kind < 78) {
            int[] told = carNumbers();
            int ticks = number(1, random.nextInt(10) == 0 ? 6 : 4);
            compare("best", yard.best(told[0], told[1], told[2], ticks),
                    plain.best(told[0], told[1], told[2], ticks), told[0], told[1], told[2], ticks);
            compareBest();
        } else {
            ask();
        }
    }

    private int[] carNumbers() {
        int volume = number(1, 20);
        int max = number(1, 300);
        boolean ordinary = volume > 0 && volume <= 20 && max > 0 && max <= 300;
        int content = number(0, ordinary ? random.nextBoolean() ? volume * max : volume * max / 4 : 300);
        return new int[] {volume, content, max};
    }

    private void ask() {
        int k = number(0, 60);
        int what = number(-1, 9);
        compare("cars", yard.cars(k, what), plain.cars(k, what), k, what);
        k = number(0, 4);
        compare("banks", yard.banks(k, what), plain.banks(k, what), k, what);
        what = number(-1, 15);
        compare("count", yard.count(what), plain.count(what), what);
        k = number(-1, 7);
        what = number(-1, 2);
        compare("bestOf", yard.bestOf(k, what), plain.bestOf(k, what), k, what);
    }

    private void compareBest() {
        for (int k = -1; k <= 6; k++) {
            for (int what = -1; what <= 2; what++) {
                due.is(call + " bestOf(" + k + ", " + what + ")", yard.bestOf(k, what), plain.bestOf(k, what));
            }
        }
    }

    private void compareAll() {
        for (int what = -2; what <= 16; what++) {
            compare("count", yard.count(what), plain.count(what), what);
            for (int k = -1; k <= 61; k++) {
                compare("cars", yard.cars(k, what), plain.cars(k, what), k, what);
                compare("banks", yard.banks(k, what), plain.banks(k, what), k, what);
            }
        }
    }

    private void book() {
        int kind = random.nextInt(20);
        if (kind == 0) {
            int[] n = random.ints(5).toArray();
            compare("feed", yard.feed(n[0], n[1], n[2], n[3], n[4]), plain.feed(n), n);
            return;
        }
        if (kind == 1) {
            int n = number(0, 200);
            compare("end", yard.end(n), plain.end(n), n);
            return;
        }
        String text = kind < 7 ? pieces() : clauses();
        if (text.length() > 200) {
            text = text.substring(0, 200);
        }
        if (random.nextInt(6) != 0) {
            compare("end", yard.end(0), plain.end(0), 0);
        }
        feed(text);
        compare("book of " + text, yard.book(), plain.book());
        compare("bytes", yard.count(9), plain.count(9));
    }

    private void feed(String text) {
        int start = yard.count(9);
        StringBuilder padded = new StringBuilder(text);
        while (padded.length() % 20 != 0) {
            padded.append((char) random.nextInt(256));
        }
        for (int from = 0; from < padded.length(); from += 20) {
            int[] n = new int[5];
            for (int at = 0; at < 20; at++) {
                n[at / 4] = n[at / 4] << 8 | padded.charAt(from + at) & 255;
            }
            compare("feed", yard.feed(n[0], n[1], n[2], n[3], n[4]), plain.feed(n), n);
        }
        int end = start + text.length();
        compare("end", yard.end(end), plain.end(end), end);
    }

    private String pieces() {
        StringBuilder text = new StringBuilder();
        for (int k = random.nextInt(12); k >= 0; k--) {
            text.append(PIECES[random.nextInt(PIECES.length)]).append(random.nextBoolean() ? " " : "");
        }
        return text.toString();
    }

    private String clauses() {
        StringBuilder text = new StringBuilder();
        int from = random.nextInt(3);
        for (int k = random.nextInt(10); k > 0 && from <= 400; k--) {
            clause(text, "flow " + from + " " + number(0, random.nextBoolean() ? 500 : 30));
            from += random.nextInt(random.nextInt(8) == 0 ? 2 : 60) + (random.nextInt(30) == 0 ? 0 : 1);
        }
        String[] words = {"warm", "cool", "limit", "press", "switch"};
        int[] lows = {0, 1, 0, 0, 1};
        int[] tops = {100, 100, 200, 500, random.nextInt(3) == 0 ? 500 : 20};
        for (int k = 0; k < words.length; k++) {
            if (random.nextInt(3) == 0) {
                clause(text, words[k] + blanks(1) + number(lows[k], tops[k]));
            }
        }
        if (random.nextInt(30) == 0) {
            clause(text, words[random.nextInt(words.length)] + " 1");
        }
        return text.toString();
    }

    private void clause(StringBuilder text, String clause) {
        text.append(text.length() == 0 ? "" : ";").append(blanks(0)).append(clause).append(blanks(0));
    }

    private String blanks(int least) {
        return " ".repeat(least + (random.nextInt(5) == 0 ? random.nextInt(3) : 0));
    }
}
