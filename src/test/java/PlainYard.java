import java.util.ArrayList;
import java.util.HashSet;
import java.util.List;
import java.util.Set;

/**
 * The document once more, word by word and without care for speed: every "most with which" is counted
 * down, every row of BEST is tried, and the answers are compared with those of GasYard in ModelTest.
 */
final class PlainYard {
    static final class Tank {
        long volume, content, bound, drawn, pressed, warmth;
        boolean lost;
        int state, bank = -1;
        long came = -1, went = -1;

        long pressure() {
            return content / volume;
        }
    }

    List<Tank> banks = new ArrayList<>();
    List<Tank> cars = new ArrayList<>();
    List<Tank> line = new ArrayList<>();
    Tank[] hose = new Tank[2];
    int hoses = 1;
    long air = 15, now, slip = 2, pressed, coins, leaked, found;
    long[] price = new long[24];
    Set<Integer> closed = new HashSet<>();
    List<Integer> tape = new ArrayList<>();
    List<long[]> flows = List.of(new long[] {0, 20});
    long[] settings = {10, 10, 85, 20, 1};
    int[] bestBanks = {};
    long[] bestUnits = {};

    PlainYard() {
        java.util.Arrays.fill(price, 1);
    }

    long bank(long volume, long content, long target) {
        if (banks.size() == 4 || volume < 1 || volume > 100 || content < 0 || content > volume * 400
                || target < 0 || target > 400) {
            return -1;
        }
        banks.add(tank(volume, content, target));
        return banks.size() - 1;
    }

    private static Tank tank(long volume, long content, long bound) {
        Tank tank = new Tank();
        tank.volume = volume;
        tank.content = content;
        tank.bound = bound;
        return tank;
    }

    long target(int bank, long pressure) {
        if (bank < 0 || bank >= banks.size() || pressure < 0 || pressure > 400) {
            return -1;
        }
        long was = banks.get(bank).bound;
        banks.get(bank).bound = pressure;
        return was;
    }

    long air(long degrees) {
        if (degrees < -30 || degrees > 50) {
            return -100;
        }
        long was = air;
        air = degrees;
        return was;
    }

    long hoses(int n) {
        if (n != 1 && n != 2 || n == 1 && hose[1] != null) {
            return -1;
        }
        int was = hoses;
        hoses = n;
        return was;
    }

    long feed(int... numbers) {
        if (tape.size() + 20 > 200) {
            return -1;
        }
        for (int number : numbers) {
            for (byte b : java.nio.ByteBuffer.allocate(4).putInt(number).array()) {
                tape.add(b & 255);
            }
        }
        return tape.size();
    }

    long end(int n) {
        if (n < 0 || n > tape.size()) {
            return -1;
        }
        tape = new ArrayList<>(tape.subList(0, n));
        return n;
    }

    /** A token is {place, kind: a letter, a digit, the byte itself, -1 for the end; its text}. */
    private record Token(int place, int kind, String text) { }

    private List<Token> tokens() {
        StringBuilder text = new StringBuilder();
        tape.forEach(b -> text.append((char) (int) b));
        List<Token> tokens = new ArrayList<>();
        java.util.regex.Matcher found = java.util.regex.Pattern
                .compile("[a-z]+|[0-9]+|[^ ]", java.util.regex.Pattern.DOTALL).matcher(text);
        while (found.find()) {
            char first = found.group().charAt(0);
            int kind = first >= 'a' && first <= 'z' ? 'a' : first >= '0' && first <= '9' ? '0' : first;
            tokens.add(new Token(found.start(), kind, found.group()));
        }
        tokens.add(new Token(text.length(), -1, ""));
        return tokens;
    }

    private static final List<String> WORDS = List.of("warm", "cool", "limit", "press", "switch");
    private static final int[][] RANGES = {{0, 100}, {1, 100}, {0, 200}, {0, 500}, {1, 500}};

    long book() {
        List<Token> tokens = tokens();
        tape = new ArrayList<>();
        List<long[]> newFlows = new ArrayList<>();
        long[] newSettings = {10, 10, 85, 20, 1};
        Set<String> told = new HashSet<>();
        int clauses = 0;
        int at = 0;
        while (tokens.size() > 1) {
            Token word = tokens.get(at++);
            int which = WORDS.indexOf(word.text);
            boolean isFlow = word.text.equals("flow");
            if (!isFlow && which < 0) {
                return fault(word, 0);
            }
            if (isFlow ? newFlows.size() == 8 : !told.add(word.text)) {
                return fault(word, 2);
            }
            long[] numbers = new long[isFlow ? 2 : 1];
            for (int k = 0; k < numbers.length; k++) {
                Token number = tokens.get(at++);
                if (number.kind != '0') {
                    return fault(number, 0);
                }
                long low = !isFlow ? RANGES[which][0]
                        : k == 0 && !newFlows.isEmpty() ? newFlows.get(newFlows.size() - 1)[0] + 1 : 0;
                long top = !isFlow ? RANGES[which][1] : k == 0 ? 400 : 500;
                if (number.text.length() > 3 || Long.parseLong(number.text) < low
                        || Long.parseLong(number.text) > top) {
                    return fault(number, 1);
                }
                numbers[k] = Long.parseLong(number.text);
            }
            if (isFlow) {
                newFlows.add(numbers);
            } else {
                newSettings[which] = numbers[0];
            }
            clauses++;
            Token next = tokens.get(at++);
            if (next.kind == -1) {
                break;
            }
            if (next.kind != ';') {
                return fault(next, 0);
            }
        }
        flows = newFlows.isEmpty() ? List.of(new long[] {0, 20}) : newFlows;
        settings = newSettings;
        return clauses;
    }

    private static long fault(Token token, int kind) {
        return -2 - (1 + 8L * token.place + kind);
    }

    long flow(long difference) {
        if (difference < -400 || difference > 400) {
            return -1;
        }
        long units = 0;
        for (long[] flow : flows) {
            if (difference >= 0 && flow[0] <= difference) {
                units = flow[1];
            }
        }
        return units;
    }

    long price(int hour, long told) {
        if (hour < 0 || hour > 23 || told < 0 || told > 99) {
            return -1;
        }
        long was = price[hour];
        price[hour] = told;
        return was;
    }

    boolean closed(int hour, boolean is) {
        return hour >= 0 && hour <= 23 && (is ? closed.add(hour) : closed.remove(hour));
    }

    boolean sensor(int what, int k, boolean lost) {
        List<Tank> tanks = what == 0 ? banks : what == 1 ? cars : List.of();
        if (k < 0 || k >= tanks.size() || what == 1 && tanks.get(k).state > 1 || tanks.get(k).lost == lost) {
            return false;
        }
        tanks.get(k).lost = lost;
        return true;
    }

    private static boolean carOk(long volume, long content, long max) {
        return volume >= 1 && volume <= 20 && max >= 1 && max <= 300 && content >= 0 && content <= volume * max;
    }

    long car(long volume, long content, long max) {
        if (cars.size() == 60 || !carOk(volume, content, max)) {
            return -1;
        }
        Tank car = tank(volume, content, max);
        car.warmth = air * 10;
        cars.add(car);
        line.add(car);
        return cars.size() - 1;
    }

    private long units(Tank bank, Tank car) {
        long f = flow(bank.pressure() - car.pressure());
        while (f > 0 && ((bank.content - f) * car.volume < (car.content + f) * bank.volume
                || f > car.volume * car.bound - car.content
                || car.warmth + Math.floorDiv(f * settings[0], car.volume) > 10 * settings[2])) {
            f--;
        }
        return f;
    }

    private void over(Tank bank, Tank car, long f) {
        bank.content -= f;
        bank.drawn += f;
        car.content += f;
        car.drawn += f;
        car.warmth += Math.floorDiv(f * settings[0], car.volume);
    }

    private void cool(Tank car) {
        long difference = car.warmth - 10 * air;
        long part = Math.abs(difference) / settings[1];
        car.warmth -= difference < 0 ? -part : part;
    }

    private void tick() {
        for (int h = 0; h < hoses; h++) {
            if (hose[h] == null && !line.isEmpty()) {
                hose[h] = line.remove(0);
                hose[h].state = 1;
                hose[h].bank = 0;
                hose[h].came = now;
            }
        }
        for (int h = 0; h < 2; h++) {
            if (hose[h] != null) {
                serve(hose[h]);
                if (hose[h].state > 1) {
                    hose[h].bank = -1;
                    hose[h].went = now;
                    hose[h] = null;
                }
            }
        }
        for (Tank car : cars) {
            if (car.state < 2) {
                cool(car);
            }
        }
        int hour = (int) (now / 60 % 24);
        for (long left = settings[3]; left > 0 && !closed.contains(hour); left--) {
            for (int k = banks.size() - 1; k >= 0; k--) {
                Tank bank = banks.get(k);
                if (!bank.lost && bank.content < bank.volume * bank.bound) {
                    bank.content++;
                    bank.pressed++;
                    pressed++;
                    coins += price[hour];
                    break;
                }
            }
        }
        now++;
    }

    private void serve(Tank car) {
        if (car.lost) {
            car.state = 4;
            return;
        }
        while (car.bank < banks.size()) {
            Tank bank = banks.get(car.bank);
            long f = units(bank, car);
            if (!bank.lost && f >= settings[4]) {
                over(bank, car, f);
                return;
            }
            car.bank++;
        }
        car.state = car.content == car.volume * car.bound ? 2 : 3;
    }

    long pass(int ticks) {
        if (ticks < 1 || ticks > 500 || now + ticks > 9999) {
            return -1;
        }
        for (int k = 0; k < ticks; k++) {
            tick();
        }
        return now;
    }

    long reading(int bank, long pressure) {
        if (bank < 0 || bank >= banks.size() || pressure < 0 || pressure > 400) {
            return -1000000;
        }
        Tank tank = banks.get(bank);
        long booked = tank.pressure();
        long between = tank.content - tank.volume * pressure;
        if (pressure < booked - slip) {
            leaked += between;
        } else if (pressure > booked + slip) {
            found += -between;
        } else {
            return 0;
        }
        tank.content = tank.volume * pressure;
        return between;
    }

    long slip(long pressure) {
        if (pressure < 0 || pressure > 50) {
            return -1;
        }
        long was = slip;
        slip = pressure;
        return was;
    }

    long best(long volume, long content, long max, int ticks) {
        if (!carOk(volume, content, max) || ticks < 1 || ticks > 6 || banks.stream().allMatch(b -> b.lost)) {
            return -1;
        }
        long[] bestKey = null;
        int rows = (int) Math.pow(banks.size(), ticks);
        for (int number = 0; number < rows; number++) {
            int[] row = new int[ticks];
            int rest = number;
            for (int k = ticks - 1; k >= 0; k--) {
                row[k] = rest % banks.size();
                rest /= banks.size();
            }
            long[] units = new long[ticks];
            long[] key = tryRow(row, units, tank(volume, content, max));
            if (key != null && (bestKey == null || java.util.Arrays.compare(key, bestKey) < 0)) {
                bestKey = key;
                bestBanks = row;
                bestUnits = units;
            }
        }
        return -bestKey[0];
    }

    /** What rows are compared by: the content below 0, then units from the greatest bank down. */
    private long[] tryRow(int[] row, long[] units, Tank car) {
        car.warmth = 10 * air;
        List<Tank> copies = new ArrayList<>();
        for (Tank bank : banks) {
            copies.add(tank(bank.volume, bank.content, bank.bound));
        }
        for (int k = 0; k < row.length; k++) {
            if (banks.get(row[k]).lost) {
                return null;
            }
            Tank bank = copies.get(row[k]);
            units[k] = units(bank, car);
            over(bank, car, units[k]);
            cool(car);
        }
        long[] key = new long[1 + copies.size()];
        key[0] = -car.content;
        for (int k = 0; k < copies.size(); k++) {
            key[copies.size() - k] = copies.get(k).drawn;
        }
        return key;
    }

    long bestOf(int k, int what) {
        return k < 0 || k >= bestBanks.length ? -1 : what == 0 ? bestBanks[k] : what == 1 ? bestUnits[k] : -1;
    }

    long banks(int k, int what) {
        if (k < 0 || k >= banks.size() || what < 0 || what > 5) {
            return -1;
        }
        Tank bank = banks.get(k);
        return new long[] {bank.content, bank.pressure(), bank.bound, bank.drawn, bank.pressed,
            bank.lost ? 1 : 0}[what];
    }

    long cars(int k, int what) {
        if (k < 0 || k >= cars.size()) {
            return what == 3 ? -1000 : -1;
        }
        Tank car = cars.get(k);
        return what < 0 || what > 7 ? -1 : new long[] {car.state, car.content, car.pressure(), car.warmth,
            car.bank, car.came, car.went, car.drawn}[what];
    }

    long count(int what) {
        long allGas = leaked;
        for (Tank bank : banks) {
            allGas += bank.content;
        }
        for (Tank car : cars) {
            allGas += car.content;
        }
        long[] answers = {now, banks.size(), cars.size(), line.size(), pressed, coins, leaked, found, allGas,
            tape.size(), settings[0], settings[1], settings[2], settings[3], settings[4]};
        return what < 0 || what >= answers.length ? -1 : answers[what];
    }
}
