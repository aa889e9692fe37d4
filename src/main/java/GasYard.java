/**
 * A yard that fills cars with pressed gas from banks of bottles in turn.
 * The document (DOC.md) tells every rule; words in capitals in comments are its terms.
 */
public final class GasYard {
    public static final int NONE = -1;

    private static final int MOST_BANKS = 4;
    private static final int MOST_CARS = 60;
    private static final int MOST_HOSES = 2;
    private static final int MOST_BYTES = 200;
    private static final int MOST_FLOWS = 8;
    private static final int MOST_ROW = 6;
    private static final int BYTES_A_FEED = 20;

    private static final int BANK_VOLUME_TOP = 100;
    private static final int PRESSURE_TOP = 400;
    private static final int CAR_VOLUME_TOP = 20;
    private static final int CAR_MAX_TOP = 300;
    private static final int AIR_LOW = -30;
    private static final int AIR_TOP = 50;
    private static final int UNITS_TOP = 500;
    private static final int PRICE_TOP = 99;
    private static final int SLIP_TOP = 50;
    private static final int PASS_TOP = 500;
    private static final int NOW_TOP = 9999;
    private static final int HOURS = 24;
    private static final int TICKS_AN_HOUR = 60;

    private static final int NO_AIR = -100;
    private static final int NO_READING = -1000000;
    private static final int NO_WARMTH = -1000;

    private static final int IN_LINE = 0;
    private static final int AT_HOSE = 1;
    private static final int FULL = 2;
    private static final int SHORT = 3;
    private static final int SAFE = 4;

    private final Bank[] rack = new Bank[MOST_BANKS];
    private int rackSize = 0;
    private final Car[] fleet = new Car[MOST_CARS];
    private int fleetSize = 0;
    // CARS leave the line only at its head, so the line is the fleet from here on.
    private int lineHead = 0;
    private final Car[] hoseCars = new Car[MOST_HOSES];
    private int hoseCount = 1;
    private int degrees = 15;
    private int now = 0;
    private int slack = 2;
    private final int[] prices = new int[HOURS];
    private final boolean[] shut = new boolean[HOURS];
    private final Tape tape = new Tape();
    private final BookReader reader = new BookReader(tape);
    private final Ledger ledger = new Ledger();
    private final Planner planner = new Planner();
    private Rules rules = new Rules();
    // A text with a FAULT must leave the BOOK as it is, so each text is read into this one first.
    private Rules draft = new Rules();

    public GasYard() {
        for (int hour = 0; hour < HOURS; hour++) {
            prices[hour] = 1;
        }
    }

    public int bank(int volume, int content, int target) {
        if (rackSize >= MOST_BANKS || !within(volume, 1, BANK_VOLUME_TOP)
                || !within(content, 0, volume * PRESSURE_TOP) || !within(target, 0, PRESSURE_TOP)) {
            return NONE;
        }
        Bank told = new Bank();
        told.volume = volume;
        told.content = content;
        told.goal = target;
        rack[rackSize] = told;
        ledger.told += content;
        rackSize++;
        return rackSize - 1;
    }

    public int target(int bank, int pressure) {
        Bank meant = bankAt(bank);
        if (meant == null || !within(pressure, 0, PRESSURE_TOP)) {
            return NONE;
        }
        int before = meant.goal;
        meant.goal = pressure;
        return before;
    }

    public int air(int degrees) {
        if (!within(degrees, AIR_LOW, AIR_TOP)) {
            return NO_AIR;
        }
        int before = this.degrees;
        this.degrees = degrees;
        return before;
    }

    public int hoses(int n) {
        if (!within(n, 1, MOST_HOSES)) {
            return NONE;
        }
        for (int hose = n; hose < MOST_HOSES; hose++) {
            if (hoseCars[hose] != null) {
                return NONE;
            }
        }
        int before = hoseCount;
        hoseCount = n;
        return before;
    }

    public int feed(int a, int b, int c, int d, int e) {
        if (tape.length > MOST_BYTES - BYTES_A_FEED) {
            return NONE;
        }
        tape.append(a);
        tape.append(b);
        tape.append(c);
        tape.append(d);
        tape.append(e);
        return tape.length;
    }

    public int end(int n) {
        if (!within(n, 0, tape.length)) {
            return NONE;
        }
        tape.length = n;
        return n;
    }

    public int book() {
        int answer = reader.readInto(draft);
        tape.length = 0;
        if (answer >= 0) {
            Rules before = rules;
            rules = draft;
            draft = before;
        }
        return answer;
    }

    public int flow(int difference) {
        return within(difference, -PRESSURE_TOP, PRESSURE_TOP) ? rules.flowAt(difference) : NONE;
    }

    public int price(int hour, int coins) {
        if (!within(hour, 0, HOURS - 1) || !within(coins, 0, PRICE_TOP)) {
            return NONE;
        }
        int before = prices[hour];
        prices[hour] = coins;
        return before;
    }

    public boolean closed(int hour, boolean is) {
        if (!within(hour, 0, HOURS - 1) || shut[hour] == is) {
            return false;
        }
        shut[hour] = is;
        return true;
    }

    public boolean sensor(int what, int k, boolean lost) {
        if (what == 0) {
            return loseOfBank(bankAt(k), lost);
        }
        return what == 1 && loseOfCar(carAt(k), lost);
    }

    public int car(int volume, int content, int max) {
        if (fleetSize >= MOST_CARS || !carAsTold(volume, content, max)) {
            return NONE;
        }
        Car come = new Car();
        come.comeWith(volume, content, max, airTenths());
        fleet[fleetSize] = come;
        ledger.told += content;
        fleetSize++;
        return fleetSize - 1;
    }

    public int pass(int ticks) {
        if (!within(ticks, 1, PASS_TOP) || ticks > NOW_TOP - now) {
            return NONE;
        }
        for (int gone = 0; gone < ticks; gone++) {
            takeFromLine();
            serveHoses();
            coolCars();
            runPress();
            now++;
        }
        return now;
    }

    public int reading(int bank, int pressure) {
        Bank read = bankAt(bank);
        if (read == null || !within(pressure, 0, PRESSURE_TOP)) {
            return NO_READING;
        }
        int apart = read.pressure() - pressure;
        if (Math.abs(apart) <= slack) {
            return 0;
        }
        int gone = read.content - read.volume * pressure;
        read.content = read.volume * pressure;
        if (apart > 0) {
            ledger.leaked += gone;
        } else {
            ledger.found -= gone;
        }
        return gone;
    }

    public int slip(int pressure) {
        if (!within(pressure, 0, SLIP_TOP)) {
            return NONE;
        }
        int before = slack;
        slack = pressure;
        return before;
    }

    public int best(int volume, int content, int max, int ticks) {
        if (!carAsTold(volume, content, max) || !within(ticks, 1, MOST_ROW) || !anyBankSensed()) {
            return NONE;
        }
        planner.guest.comeWith(volume, content, max, airTenths());
        planner.copyBanks(rack, rackSize);
        return planner.plan(rules, airTenths(), ticks);
    }

    public int bestOf(int k, int what) {
        return planner.answer(k, what);
    }

    public int banks(int k, int what) {
        Bank asked = bankAt(k);
        return asked == null ? NONE : asked.answer(what);
    }

    public int cars(int k, int what) {
        Car asked = carAt(k);
        if (asked == null) {
            return what == 3 ? NO_WARMTH : NONE;
        }
        return asked.answer(what);
    }

    public int count(int what) {
        switch (what) {
            case 0: return now;
            case 1: return rackSize;
            case 2: return fleetSize;
            case 3: return fleetSize - lineHead;
            case 4: return ledger.pressed;
            case 5: return ledger.coins;
            case 6: return ledger.leaked;
            case 7: return ledger.found;
            case 8: return ledger.allGas();
            case 9: return tape.length;
            case 10: return rules.warm;
            case 11: return rules.cool;
            case 12: return rules.limit;
            case 13: return rules.press;
            case 14: return rules.least;
            default: return NONE;
        }
    }

    private static boolean within(int number, int low, int top) {
        return number >= low && number <= top;
    }

    private static boolean carAsTold(int volume, int content, int max) {
        return within(volume, 1, CAR_VOLUME_TOP) && within(max, 1, CAR_MAX_TOP)
                && within(content, 0, volume * max);
    }

    private int airTenths() {
        return 10 * degrees;
    }

    private Bank bankAt(int k) {
        return within(k, 0, rackSize - 1) && k < MOST_BANKS ? rack[k] : null;
    }

    private Car carAt(int k) {
        return within(k, 0, fleetSize - 1) && k < MOST_CARS ? fleet[k] : null;
    }

    private boolean anyBankSensed() {
        for (int k = 0; k < MOST_BANKS; k++) {
            Bank looked = bankAt(k);
            if (looked != null && !looked.lost) {
                return true;
            }
        }
        return false;
    }

    private static boolean loseOfBank(Bank meant, boolean lost) {
        if (meant == null || meant.lost == lost) {
            return false;
        }
        meant.lost = lost;
        return true;
    }

    private static boolean loseOfCar(Car meant, boolean lost) {
        if (meant == null || !meant.isHere() || meant.lost == lost) {
            return false;
        }
        meant.lost = lost;
        return true;
    }

    private void takeFromLine() {
        for (int hose = 0; hose < MOST_HOSES; hose++) {
            Car first = carAt(lineHead);
            if (hose < hoseCount && hoseCars[hose] == null && first != null) {
                first.state = AT_HOSE;
                first.source = 0;
                first.cameAt = now;
                hoseCars[hose] = first;
                lineHead++;
            }
        }
    }

    private void serveHoses() {
        for (int hose = 0; hose < MOST_HOSES; hose++) {
            Car served = hoseCars[hose];
            if (served != null && !drawsOn(served)) {
                served.wentAt = now;
                hoseCars[hose] = null;
            }
        }
    }

    /** Whether the CAR stays at its HOSE; if not, its state tells how it goes. */
    private boolean drawsOn(Car served) {
        if (served.lost) {
            served.state = SAFE;
            return false;
        }
        for (int k = served.source; k < MOST_BANKS; k++) {
            Bank source = bankAt(k);
            if (source != null && !source.lost) {
                int units = rules.unitsOver(source, served);
                if (units >= rules.least) {
                    served.source = k;
                    rules.moveOver(source, served, units);
                    return true;
                }
            }
        }
        served.state = served.lacks() == 0 ? FULL : SHORT;
        return false;
    }

    private void coolCars() {
        for (int k = 0; k < fleetSize; k++) {
            Car cooled = carAt(k);
            if (cooled != null && cooled.isHere()) {
                rules.coolDown(cooled, airTenths());
            }
        }
    }

    private void runPress() {
        int hour = now / TICKS_AN_HOUR % HOURS;
        if (!within(hour, 0, HOURS - 1) || shut[hour]) {
            return;
        }
        int left = rules.press;
        for (int k = MOST_BANKS - 1; k >= 0; k--) {
            Bank filled = bankAt(k);
            if (filled != null && !filled.lost) {
                int units = Math.min(left, filled.lacks());
                filled.content += units;
                filled.pressed += units;
                left -= units;
            }
        }
        ledger.press(rules.press - left, prices[hour]);
    }

    /** What came into the yard and what is told as gone. */
    private static final class Ledger {
        int told = 0;
        int pressed = 0;
        int coins = 0;
        int leaked = 0;
        int found = 0;

        void press(int units, int coinsEach) {
            pressed += units;
            coins += units * coinsEach;
        }

        int allGas() {
            return told + pressed + found;
        }
    }

    private static final class Bank {
        int volume = 1;
        int content = 0;
        int goal = 0;
        int drawn = 0;
        int pressed = 0;
        boolean lost = false;

        int pressure() {
            return volume < 1 ? 0 : content / volume;
        }

        int lacks() {
            return Math.max(0, volume * goal - content);
        }

        void copyFrom(Bank other) {
            volume = other.volume;
            content = other.content;
            lost = other.lost;
            drawn = 0;
        }

        int answer(int what) {
            switch (what) {
                case 0: return content;
                case 1: return pressure();
                case 2: return goal;
                case 3: return drawn;
                case 4: return pressed;
                case 5: return lost ? 1 : 0;
                default: return NONE;
            }
        }
    }

    private static final class Car {
        int volume = 1;
        int content = 0;
        int max = 1;
        int warmth = 0;
        int state = IN_LINE;
        int source = 0;
        int cameAt = NONE;
        int wentAt = NONE;
        int drawn = 0;
        boolean lost = false;

        void comeWith(int toldVolume, int toldContent, int toldMax, int toldWarmth) {
            volume = toldVolume;
            content = toldContent;
            max = toldMax;
            warmth = toldWarmth;
            drawn = 0;
        }

        boolean isHere() {
            return state == IN_LINE || state == AT_HOSE;
        }

        int pressure() {
            return volume < 1 ? 0 : content / volume;
        }

        int lacks() {
            return Math.max(0, volume * max - content);
        }

        int answer(int what) {
            switch (what) {
                case 0: return state;
                case 1: return content;
                case 2: return pressure();
                case 3: return warmth;
                case 4: return state == AT_HOSE ? source : NONE;
                case 5: return cameAt;
                case 6: return wentAt;
                case 7: return drawn;
                default: return NONE;
            }
        }
    }

    /** A BOOK of rules, and what follows from it for a BANK and a CAR. */
    private static final class Rules {
        private static final int FLOW_WITHOUT = 20;

        int warm = 10;
        int cool = 10;
        int limit = 85;
        int press = 20;
        int least = 1;
        final int[] flowFrom = new int[MOST_FLOWS];
        final int[] flowUnits = new int[MOST_FLOWS];
        int flows = 0;

        void asWithout() {
            warm = 10;
            cool = 10;
            limit = 85;
            press = 20;
            least = 1;
            flows = 0;
        }

        void addFlow(int from, int units) {
            if (flows >= 0 && flows < MOST_FLOWS) {
                flowFrom[flows] = from;
                flowUnits[flows] = units;
                flows++;
            }
        }

        /** The lowest d that the next flow may have. */
        int nextFrom() {
            return flows >= 1 && flows <= MOST_FLOWS ? flowFrom[flows - 1] + 1 : 0;
        }

        int flowAt(int difference) {
            if (difference < 0) {
                return 0;
            }
            int units = flows == 0 ? FLOW_WITHOUT : 0;
            for (int k = 0; k < flows && k < MOST_FLOWS; k++) {
                if (flowFrom[k] <= difference) {
                    units = flowUnits[k];
                }
            }
            return units;
        }

        int mostFlow() {
            int most = flows == 0 ? FLOW_WITHOUT : 0;
            for (int k = 0; k < flows && k < MOST_FLOWS; k++) {
                most = Math.max(most, flowUnits[k]);
            }
            return most;
        }

        int unitsOver(Bank from, Car to) {
            int units = flowAt(from.pressure() - to.pressure());
            units = Math.min(units, unitsToEven(from, to));
            units = Math.min(units, to.lacks());
            return Math.min(units, unitsToLimit(to));
        }

        private int unitsToEven(Bank from, Car to) {
            int ahead = from.content * to.volume - to.content * from.volume;
            int both = from.volume + to.volume;
            return ahead <= 0 || both < 1 ? 0 : ahead / both;
        }

        private int unitsToLimit(Car to) {
            int room = 10 * limit - to.warmth;
            if (room < 0) {
                return 0;
            }
            // The rise is rounded downwards, so all but a whole tenth more than the room is let.
            return warm < 1 ? UNITS_TOP : ((room + 1) * to.volume - 1) / warm;
        }

        void moveOver(Bank from, Car to, int units) {
            from.content -= units;
            from.drawn += units;
            to.content += units;
            to.drawn += units;
            to.warmth += to.volume < 1 ? 0 : units * warm / to.volume;
        }

        void coolDown(Car cooled, int airTenths) {
            cooled.warmth -= cool < 1 ? 0 : (cooled.warmth - airTenths) / cool;
        }
    }

    /** The bytes that were fed and not yet read as a BOOK. */
    private static final class Tape {
        final byte[] bytes = new byte[MOST_BYTES];
        int length = 0;

        void append(int number) {
            for (int shift = 24; shift >= 0; shift -= 8) {
                if (length >= 0 && length < MOST_BYTES) {
                    bytes[length] = (byte) (number >>> shift);
                    length++;
                }
            }
        }

        /** The byte at a place, NONE behind the last one. */
        int at(int place) {
            return place >= 0 && place < length && place < MOST_BYTES ? bytes[place] & 255 : NONE;
        }
    }

    /** Reads a TAPE as a BOOK of rules, up to its first FAULT. */
    private static final class BookReader {
        private static final int CANT_STAND = 0;
        private static final int NOT_AS_TOLD = 1;
        private static final int TOO_OFTEN = 2;
        private static final int MOST_DIGITS = 3;
        private static final int WORDS = 6;
        private static final int FLOW_WORD = 0;

        private final Tape text;
        private int at = 0;
        private int fault = 0;
        private final boolean[] seen = new boolean[WORDS];

        BookReader(Tape from) {
            text = from;
        }

        /** How many CLAUSES the text has, or -2 - its FAULT. */
        int readInto(Rules into) {
            begin(into);
            int clauses = 0;
            boolean more = !isAtEnd();
            for (int turn = 0; turn < MOST_BYTES && more; turn++) {
                readClause(into);
                clauses++;
                more = fault == 0 && !isAtEnd() && takesSemicolon();
            }
            return fault == 0 ? clauses : -2 - fault;
        }

        private void begin(Rules into) {
            at = 0;
            fault = 0;
            for (int word = 0; word < WORDS; word++) {
                seen[word] = false;
            }
            into.asWithout();
        }

        private boolean isAtEnd() {
            skipBlanks();
            return text.at(at) == NONE;
        }

        private boolean takesSemicolon() {
            if (text.at(at) != ';') {
                blame(at, CANT_STAND);
                return false;
            }
            at++;
            return true;
        }

        private void readClause(Rules into) {
            skipBlanks();
            int start = at;
            int word = readWord();
            if (word < 0 || word >= WORDS) {
                blame(start, CANT_STAND);
            } else if (word == FLOW_WORD ? into.flows >= MOST_FLOWS : seen[word]) {
                blame(start, TOO_OFTEN);
            } else if (word == FLOW_WORD) {
                readFlow(into);
            } else {
                seen[word] = true;
                readSetting(word, into);
            }
        }

        private void readFlow(Rules into) {
            int from = readNumber(into.nextFrom(), PRESSURE_TOP);
            int units = fault == 0 ? readNumber(0, UNITS_TOP) : 0;
            if (fault == 0) {
                into.addFlow(from, units);
            }
        }

        private void readSetting(int word, Rules into) {
            switch (word) {
                case 1: into.warm = readNumber(0, 100); break;
                case 2: into.cool = readNumber(1, 100); break;
                case 3: into.limit = readNumber(0, 200); break;
                case 4: into.press = readNumber(0, UNITS_TOP); break;
                default: into.least = readNumber(1, UNITS_TOP); break;
            }
        }

        /** Which WORD stands here, as far as small letters go on; NONE if none of the book's does. */
        private int readWord() {
            int start = at;
            for (int step = 0; step < MOST_BYTES && isBetween(text.at(at), 'a', 'z'); step++) {
                at++;
            }
            for (int word = 0; word < WORDS; word++) {
                if (isWord(wordText(word), start)) {
                    return word;
                }
            }
            return NONE;
        }

        private boolean isWord(String word, int start) {
            if (word.length() != at - start) {
                return false;
            }
            for (int k = 0; k < word.length(); k++) {
                if (word.charAt(k) != text.at(start + k)) {
                    return false;
                }
            }
            return true;
        }

        private static String wordText(int word) {
            switch (word) {
                case FLOW_WORD: return "flow";
                case 1: return "warm";
                case 2: return "cool";
                case 3: return "limit";
                case 4: return "press";
                default: return "switch";
            }
        }

        private int readNumber(int low, int top) {
            skipBlanks();
            int start = at;
            int value = 0;
            for (int step = 0; step < MOST_BYTES && isBetween(text.at(at), '0', '9'); step++) {
                // More digits are a FAULT whatever they tell, so they need not be added up.
                value = step < MOST_DIGITS ? value * 10 + text.at(at) - '0' : value;
                at++;
            }
            if (at == start) {
                blame(start, CANT_STAND);
            } else if (at - start > MOST_DIGITS || !within(value, low, top)) {
                blame(start, NOT_AS_TOLD);
            }
            return value;
        }

        private void skipBlanks() {
            for (int step = 0; step < MOST_BYTES && text.at(at) == ' '; step++) {
                at++;
            }
        }

        private void blame(int place, int kind) {
            fault = 1 + 8 * place + kind;
        }

        private static boolean isBetween(int sign, char low, char top) {
            return sign >= low && sign <= top;
        }
    }

    /** Finds BEST by going through all rows of BANKS, on copies of the yard's. */
    private static final class Planner {
        final Car guest = new Car();
        private final Bank[] stock = new Bank[MOST_BANKS];
        private int stockSize = 0;
        private int airTenths = 0;
        private int rowLength = 0;
        private int flowTop = 0;
        private final int[] row = new int[MOST_ROW];
        private final int[] rowUnits = new int[MOST_ROW];

        private final int[] keptRow = new int[MOST_ROW];
        private final int[] keptUnits = new int[MOST_ROW];
        private final int[] keptDrawn = new int[MOST_BANKS];
        private int keptLength = 0;
        private int keptContent = NONE;

        Planner() {
            for (int k = 0; k < MOST_BANKS; k++) {
                stock[k] = new Bank();
            }
        }

        void copyBanks(Bank[] rack, int size) {
            stockSize = 0;
            for (int k = 0; k < size && k < MOST_BANKS && k < rack.length; k++) {
                if (rack[k] != null) {
                    stock[k].copyFrom(rack[k]);
                    stockSize = k + 1;
                }
            }
        }

        /** The most CONTENT of the guest behind so many TICKS; its row is kept. */
        int plan(Rules rules, int air, int ticks) {
            airTenths = air;
            rowLength = Math.min(ticks, MOST_ROW);
            flowTop = rules.mostFlow();
            keptLength = rowLength;
            keptContent = NONE;
            search(rules, 0);
            return keptContent;
        }

        int answer(int k, int what) {
            if (k < 0 || k >= keptLength || k >= MOST_ROW) {
                return NONE;
            }
            switch (what) {
                case 0: return keptRow[k];
                case 1: return keptUnits[k];
                default: return NONE;
            }
        }

        /** Goes on from TICK depth; rows come in order of their BANKS, so of equal ones the first is kept. */
        private void search(Rules rules, int depth) {
            int most = guest.content + Math.min(guest.lacks(), (rowLength - depth) * flowTop);
            if (!isBetter(most)) {
                return;
            }
            if (depth < 0 || depth >= rowLength || depth >= MOST_ROW) {
                keepRow();
                return;
            }
            for (int k = 0; k < stockSize && k < MOST_BANKS; k++) {
                if (!stock[k].lost) {
                    drawAndGoOn(rules, k, depth);
                }
            }
        }

        private void drawAndGoOn(Rules rules, int k, int depth) {
            int warmthBefore = guest.warmth;
            int units = rules.unitsOver(stock[k], guest);
            row[depth] = k;
            rowUnits[depth] = units;
            rules.moveOver(stock[k], guest, units);
            rules.coolDown(guest, airTenths);
            search(rules, depth + 1);
            rules.moveOver(stock[k], guest, -units);
            guest.warmth = warmthBefore;
        }

        /**
         * Whether a row that gets to this CONTENT may beat the kept one. Units drawn only grow along a
         * row, so one that is not better so far is not better at its end either.
         */
        private boolean isBetter(int content) {
            if (content != keptContent) {
                return content > keptContent;
            }
            for (int k = Math.min(stockSize, MOST_BANKS) - 1; k >= 0; k--) {
                if (stock[k].drawn != keptDrawn[k]) {
                    return stock[k].drawn < keptDrawn[k];
                }
            }
            return false;
        }

        private void keepRow() {
            keptContent = guest.content;
            for (int tick = 0; tick < MOST_ROW; tick++) {
                keptRow[tick] = row[tick];
                keptUnits[tick] = rowUnits[tick];
            }
            for (int k = 0; k < MOST_BANKS; k++) {
                keptDrawn[k] = stock[k].drawn;
            }
        }
    }
}
