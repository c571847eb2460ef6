import java.util.Arrays;

/** A town of locks without a key: doors that open to whoever's hair is up, a pin for each. */
public final class HairpinLocks {
    public static final int NONE = -1;

    private static final int KINDS = 6;
    private static final int ROOMS = 16;
    private static final int DOORS = 24;
    private static final int WOMEN = 10;

    private static final int CANNOT = -2;
    private static final int WRONG_BYTE = -3;
    private static final int IS_THERE = -4;

    private static final int TAPE_BYTES = 260;
    private static final int HAIR_BYTES = 60;
    private static final int ORDERS_BYTES = 120;
    private static final int LAW_BYTES = 240;
    private static final int END = -1;

    private static final int MOST_PINS = 60;
    private static final int MOST_PRONGS = 63;
    private static final int MOST_LINES = 16;
    private static final int MOST_RULES = 16;
    private static final int MOST_RUST = 99;
    private static final int MOST_SEED = 65535;
    private static final int MOST_AT_A_TIME = 100;
    private static final int LAST_ROUND = 9999;

    private static final int CANT_STAND = 1;
    private static final int DIGIT_TOO_MANY = 2;
    private static final int NUMBER_TOO_HIGH = 3;
    private static final int ONE_TOO_MANY = 4;
    private static final int TOO_DEEP = 5;
    private static final int TOO_MANY_PINS = 6;
    private static final int ROOM_AND_ITSELF = 6;
    private static final int DOOR_NOT_TOLD = 7;

    private final Tape tape;
    private final Script script;
    private final HairReader hairReader;
    private final OrdersReader ordersReader;
    private final LawReader lawReader;
    private final Doors doors;
    private final Town town;
    private final Town kept;
    private final Town trial;
    private final Walk walk;
    private final Reach reach;
    private Law lawNow;
    private Law lawSpare;
    private boolean isKept;

    public HairpinLocks() {
        tape = new Tape();
        script = new Script(tape);
        hairReader = new HairReader(script);
        ordersReader = new OrdersReader(script);
        doors = new Doors();
        town = new Town();
        kept = new Town();
        trial = new Town();
        walk = new Walk();
        reach = new Reach();
        lawNow = new Law();
        lawSpare = new Law();
        lawReader = new LawReader(script, lawSpare);
        isKept = false;
    }

    public boolean woman(int w, int room) {
        if (!isWithin(w, 0, WOMEN - 1) || !isWithin(room, 0, ROOMS - 1)) {
            return false;
        }
        town.put(w, room);
        return true;
    }

    public int feed(int a, int b, int c, int d, int e) {
        if (tape.size > TAPE_BYTES - 20) {
            return NONE;
        }
        tape.add(a);
        tape.add(b);
        tape.add(c);
        tape.add(d);
        tape.add(e);
        return tape.size;
    }

    public int law(int n) {
        if (!isWithin(n, 1, LAW_BYTES) || tape.size < n) {
            return NONE;
        }
        script.open(n);
        lawReader.read(lawSpare);
        tape.clear();
        if (!script.isSound()) {
            return script.fault;
        }
        Law before = lawNow;
        lawNow = lawSpare;
        lawSpare = before;
        return lawNow.rules;
    }

    public int hair(int w, int n) {
        if (!town.isTold(w) || !isWithin(n, 1, HAIR_BYTES) || tape.size < n) {
            return NONE;
        }
        script.open(n);
        hairReader.read();
        tape.clear();
        if (!script.isSound()) {
            return script.fault;
        }
        town.dress(w, hairReader.pins);
        return town.pinsOf(w);
    }

    public int orders(int n) {
        if (!isWithin(n, 1, ORDERS_BYTES) || tape.size < n) {
            return NONE;
        }
        script.open(n);
        ordersReader.read(doors.told);
        tape.clear();
        if (!script.isSound()) {
            return script.fault;
        }
        ordersReader.carryOut(doors, town);
        return ordersReader.lines;
    }

    public int rounds(int n) {
        if (!isWithin(n, 1, MOST_AT_A_TIME)) {
            return NONE;
        }
        walk.go(town, doors, lawNow, n);
        return walk.passed;
    }

    public int night() {
        int before = town.pinsOfAll();
        System.arraycopy(town.hair, 0, town.pins, 0, town.pins.length);
        return town.pinsOfAll() - before;
    }

    public int tried(int n, int what) {
        if (!isWithin(n, 1, MOST_AT_A_TIME) || !canBeTried(what)) {
            return NONE;
        }
        trial.copy(town);
        walk.go(trial, doors, lawNow, n);
        if (what == 0) {
            return walk.passed;
        }
        if (what == 1) {
            return walk.jammed;
        }
        return what < 30 ? trial.roomOf(what - 10) : trial.pinsOf(what - 30);
    }

    public int womanIs(int w, int what) {
        if (!town.isTold(w)) {
            return NONE;
        }
        if (what == 0) {
            return town.roomOf(w);
        }
        if (what == 1) {
            return town.pinsOf(w);
        }
        if (isWithin(what, 10, 10 + KINDS - 1)) {
            return town.pinsOfKind(w, what - 10);
        }
        if (isWithin(what, 20, 20 + KINDS - 1)) {
            return town.hair[w * KINDS + what - 20];
        }
        return NONE;
    }

    public int doorIs(int d, int what) {
        if (!doors.isTold(d)) {
            return NONE;
        }
        switch (what) {
            case 0:
                return doors.one[d];
            case 1:
                return doors.other[d];
            case 2:
                return doors.wards[d];
            case 3:
                return doors.barred >> d & 1;
            case 4:
                return town.rust[d];
            case 5:
                return doors.fits[d];
            default:
                return NONE;
        }
    }

    public int kindIs(int k) {
        return isWithin(k, 0, KINDS - 1) ? doors.bent[k] : NONE;
    }

    public int getsTo(int w, int room, int what) {
        if (!town.isTold(w) || !isWithin(room, 0, ROOMS - 1) || !isWithin(what, 0, 1)) {
            return NONE;
        }
        int here = town.roomOf(w);
        if (here == room) {
            return what == 0 ? 0 : IS_THERE;
        }
        // Spread from the room she wants: the ways back to her then tell her first door, too.
        reach.spread(doors, town, w, room);
        int fewest = reach.fewestTo(here);
        if (fewest == NONE) {
            return CANNOT;
        }
        return what == 0 ? fewest : reach.firstDoor(doors, here, fewest);
    }

    public int near(int w) {
        if (!town.isTold(w)) {
            return NONE;
        }
        reach.spread(doors, town, w, town.roomOf(w));
        return reach.allRooms();
    }

    public int atOnce(int w, int what) {
        if (!town.isTold(w) || !isWithin(what, 0, 1)) {
            return NONE;
        }
        int which = doors.unbarred();
        if (what == 1) {
            which &= doors.ofRoom(town.roomOf(w));
        }
        return mostOpened(w, which);
    }

    public int enough(int what) {
        if (!isWithin(what, 0, 1)) {
            return NONE;
        }
        int kinds = doors.fewestKinds();
        if (kinds == NONE) {
            return CANNOT;
        }
        return what == 0 ? Integer.bitCount(kinds) : kinds;
    }

    public int nothingFits() {
        int bits = 0;
        for (int d = 0; d < DOORS; d++) {
            if (doors.isTold(d) && doors.fits[d] == 0) {
                bits |= 1 << d;
            }
        }
        return bits;
    }

    public int bent(int n) {
        if (!isWithin(n, 1, 12) || tape.size < 2 * n) {
            return NONE;
        }
        int answer = areDoorsWithKinds(n) ? whoBent(n) : CANNOT;
        tape.clear();
        return answer;
    }

    public int prongs(int k, int d) {
        if (!isWithin(k, 0, KINDS - 1) || !doors.isTold(d)) {
            return NONE;
        }
        return Integer.bitCount(doors.bent[k] ^ doors.wards[d]);
    }

    public int landings(int what) {
        if (isWithin(what, 0, ROOMS - 1)) {
            return doors.groupOf(what, doors.unbarred());
        }
        if (what == 100) {
            return doors.groups();
        }
        if (what == 101) {
            return Integer.bitCount(doors.onlyWays());
        }
        if (what == 102) {
            int ways = doors.onlyWays();
            return ways == 0 ? CANNOT : Integer.numberOfTrailingZeros(ways);
        }
        return NONE;
    }

    public int curls(int n, int what) {
        if (!isWithin(n, 0, 8) || !isWithin(what, 0, 1) || tape.size < 6 * n) {
            return NONE;
        }
        int answer;
        if (!Puzzles.areColours(tape, n)) {
            answer = WRONG_BYTE;
        } else {
            answer = what == 0 ? Puzzles.howManyCurls(tape, n) : Puzzles.leastCurls(tape, n);
        }
        tape.clear();
        return answer;
    }

    public int rings(int on, int what) {
        if (!isWithin(on, 0, 4095) || !isWithin(what, 0, 1)) {
            return NONE;
        }
        int moves = Puzzles.ringMoves(on);
        if (what == 0) {
            return moves;
        }
        return moves == 0 ? CANNOT : Integer.numberOfTrailingZeros(moves);
    }

    public int dials(int n) {
        if (!isWithin(n, 2, 5) || tape.size < n) {
            return NONE;
        }
        int answer = Puzzles.areDials(tape, n) ? Puzzles.dialTurns(tape, n) : WRONG_BYTE;
        tape.clear();
        return answer;
    }

    public int dish(int n, int what) {
        if (!isWithin(n, 1, 12) || !isWithin(what, 0, 2) || tape.size < n) {
            return NONE;
        }
        int weight = Puzzles.mostWeight(tape, n);
        int answer = weight;
        if (what == 0) {
            answer = Puzzles.howManyWeigh(tape, n, weight);
        } else if (what == 2) {
            answer = Puzzles.firstOfAnother(tape, n, weight);
        }
        tape.clear();
        return answer;
    }

    public int thursday() {
        if (tape.size < Puzzles.DAYS) {
            return NONE;
        }
        int answer = Puzzles.weekSteps(tape);
        tape.clear();
        return answer;
    }

    public boolean seed(int x) {
        if (!isWithin(x, 0, MOST_SEED)) {
            return false;
        }
        town.x = x;
        return true;
    }

    public int keep() {
        kept.copy(town);
        isKept = true;
        return town.round;
    }

    public boolean undo() {
        if (!isKept) {
            return false;
        }
        town.copy(kept);
        return true;
    }

    public int check(int n) {
        if (!isWithin(n, 0, WOMEN) || tape.size < n) {
            return CANNOT;
        }
        int answer = NONE;
        for (int w = 0; w < n && answer == NONE; w++) {
            int due = town.isTold(w) ? town.roomOf(w) : 255;
            if (tape.at(w) != due) {
                answer = w;
            }
        }
        tape.clear();
        return answer;
    }

    public int count(int what) {
        switch (what) {
            case 0:
                return town.round;
            case 1:
                return town.told;
            case 2:
                return doors.told;
            case 3:
                return doors.barred;
            case 4:
                return town.pinsOfAll();
            case 5:
                return lawNow.rules;
            case 6:
                return tape.size;
            case 7:
                return town.x;
            default:
                return isWithin(what, 10, 10 + ROOMS - 1) ? town.inRoom(what - 10) : NONE;
        }
    }

    private static boolean isWithin(int n, int least, int most) {
        return n >= least && n <= most;
    }

    private boolean canBeTried(int what) {
        if (what == 0 || what == 1) {
            return true;
        }
        if (isWithin(what, 10, 10 + WOMEN - 1)) {
            return town.isTold(what - 10);
        }
        return isWithin(what, 30, 30 + WOMEN - 1) && town.isTold(what - 30);
    }

    /** By Hall's and Koenig's law: for each set of kinds, its doors and the pins of the other kinds are a bound. */
    private int mostOpened(int w, int which) {
        int most = DOORS;
        for (int set = 0; set < 1 << KINDS; set++) {
            int bound = 0;
            for (int k = 0; k < KINDS; k++) {
                if ((set >> k & 1) == 0) {
                    bound += town.pinsOfKind(w, k);
                }
            }
            for (int d = 0; d < DOORS; d++) {
                if ((which >> d & 1) != 0 && (doors.fits[d] & set) != 0) {
                    bound++;
                }
            }
            most = Math.min(most, bound);
        }
        return most;
    }

    private boolean areDoorsWithKinds(int n) {
        for (int i = 0; i < n; i++) {
            if (!doors.isTold(tape.at(2 * i)) || tape.at(2 * i + 1) >= KINDS) {
                return false;
            }
        }
        return true;
    }

    private int whoBent(int n) {
        int who = town.told;
        for (int i = 0; i < n; i++) {
            int d = tape.at(2 * i);
            int k = tape.at(2 * i + 1);
            if (!doors.isTold(d) || (doors.fits[d] >> k & 1) == 0) {
                return 0;
            }
        }
        for (int k = 0; k < KINDS; k++) {
            who &= town.whoPutUp(k, bentOf(n, k));
        }
        return who;
    }

    private int bentOf(int n, int k) {
        int many = 0;
        for (int i = 0; i < n; i++) {
            if (tape.at(2 * i + 1) == k) {
                many++;
            }
        }
        return many;
    }

    /** The bytes that have been fed and not yet been used. */
    private static final class Tape {
        final int[] bytes = new int[TAPE_BYTES];
        int size;

        void add(int word) {
            for (int shift = 24; shift >= 0; shift -= 8) {
                if (size < bytes.length) {
                    bytes[size] = word >> shift & 255;
                    size++;
                }
            }
        }

        int at(int i) {
            return i >= 0 && i < size ? bytes[i] : END;
        }

        void clear() {
            size = 0;
        }
    }

    /** A text on the tape that is read from the left, with its first fault. */
    private static final class Script {
        final Tape tape;
        int end;
        int place;
        int sign;
        int fault;

        Script(Tape tape) {
            this.tape = tape;
        }

        void open(int n) {
            end = n;
            fault = 0;
            place = -1;
            step();
        }

        void step() {
            place++;
            boolean isThere = place >= 0 && place < end && place < tape.size && place < tape.bytes.length;
            sign = isThere ? tape.bytes[place] : END;
        }

        boolean isSound() {
            return fault == 0;
        }

        boolean isAtEnd() {
            return place >= end;
        }

        boolean isDigit() {
            return sign >= '0' && sign <= '9';
        }

        void fail(int number, int where) {
            if (fault == 0) {
                fault = -1000 * number - where;
            }
        }

        boolean take(int wanted) {
            if (fault != 0 || sign != wanted) {
                return false;
            }
            step();
            return true;
        }

        void want(int wanted) {
            if (sign != wanted) {
                fail(CANT_STAND, place);
            } else if (fault == 0) {
                step();
            }
        }

        /** The number's height is asked when it has ended, so a digit too many comes ahead of it. */
        int number(int mostDigits, int most) {
            int first = place;
            int value = 0;
            if (!isDigit()) {
                fail(CANT_STAND, place);
            }
            for (int digits = 0; digits <= mostDigits && fault == 0 && isDigit(); digits++) {
                if (digits == mostDigits) {
                    fail(DIGIT_TOO_MANY, place);
                } else {
                    value = 10 * value + sign - '0';
                    step();
                }
            }
            if (value > most) {
                fail(NUMBER_TOO_HIGH, first);
            }
            return value;
        }
    }

    /** Reads HAIR as if its rounds were written out, as those ahead of a round count towards the 60, too. */
    private static final class HairReader {
        static final int DEEPEST = 2;
        final Script script;
        final int[] pins = new int[KINDS];
        final int[] ahead = new int[DEEPEST * KINDS];

        HairReader(Script script) {
            this.script = script;
        }

        void read() {
            Arrays.fill(pins, 0);
            readPins(0);
        }

        private void readPins(int depth) {
            for (int items = 0; items <= HAIR_BYTES && script.isSound(); items++) {
                if (items > 0 && endsHere(depth)) {
                    return;
                }
                readItem(depth);
            }
        }

        private boolean endsHere(int depth) {
            return depth == 0 ? script.isAtEnd() : script.sign == ')';
        }

        private void readItem(int depth) {
            int first = script.place;
            int times = 1;
            if (isWithin(script.sign, '2', '9')) {
                times = script.sign - '0';
                script.step();
            }
            if (isWithin(script.sign, 'a', 'f')) {
                pins[script.sign - 'a'] += times;
                script.step();
            } else if (script.sign == '(') {
                readGroup(depth, times);
            } else {
                script.fail(CANT_STAND, script.place);
            }
            if (pinsSoFar() > MOST_PINS) {
                script.fail(TOO_MANY_PINS, first);
            }
        }

        /** Inside a round its pins stand there once; the other times come when it ends. */
        private void readGroup(int depth, int times) {
            if (depth < 0 || depth >= DEEPEST) {
                script.fail(TOO_DEEP, script.place);
                return;
            }
            script.step();
            System.arraycopy(pins, 0, ahead, depth * KINDS, KINDS);
            readPins(depth + 1);
            script.want(')');
            for (int k = 0; k < KINDS && script.isSound(); k++) {
                pins[k] += (times - 1) * (pins[k] - ahead[depth * KINDS + k]);
            }
        }

        private int pinsSoFar() {
            int sum = 0;
            for (int k = 0; k < KINDS; k++) {
                sum += pins[k];
            }
            return sum;
        }
    }

    /** Reads ORDERS whole before any of them is carried out, as nothing is done by those with a fault. */
    private static final class OrdersReader {
        static final int TELL = 0;
        static final int BAR = 1;
        static final int UNBAR = 2;
        static final int BEND = 3;
        static final int MOST_DIGITS = 2;
        final Script script;
        final int[] sorts = new int[MOST_LINES];
        final int[] numbers = new int[MOST_LINES];
        final int[] ones = new int[MOST_LINES];
        final int[] others = new int[MOST_LINES];
        final int[] values = new int[MOST_LINES];
        int lines;
        int told;

        OrdersReader(Script script) {
            this.script = script;
        }

        void read(int toldBefore) {
            lines = 0;
            told = toldBefore;
            for (int i = 0; i <= MOST_LINES && script.isSound(); i++) {
                readLine();
                if (!script.isSound() || script.isAtEnd()) {
                    return;
                }
                script.want(';');
            }
        }

        private void readLine() {
            boolean isKind = isWithin(script.sign, 'a', 'f');
            if (!isKind && !script.isDigit()) {
                script.fail(CANT_STAND, script.place);
            } else if (lines >= MOST_LINES) {
                script.fail(ONE_TOO_MANY, script.place);
            } else {
                if (isKind) {
                    readKind();
                } else {
                    readDoor();
                }
                lines++;
            }
        }

        private void readKind() {
            sorts[lines] = BEND;
            numbers[lines] = script.sign - 'a';
            script.step();
            script.want('=');
            if (script.isSound()) {
                values[lines] = script.number(MOST_DIGITS, MOST_PRONGS);
            }
        }

        private void readDoor() {
            int first = script.place;
            int d = script.number(MOST_DIGITS, DOORS - 1);
            numbers[lines] = d;
            if (!script.isSound()) {
                return;
            }
            if (script.take(':')) {
                sorts[lines] = TELL;
                readRooms();
                told |= 1 << d;
            } else if (script.sign == '!' || script.sign == '?') {
                sorts[lines] = script.sign == '!' ? BAR : UNBAR;
                script.step();
                if ((told >> d & 1) == 0) {
                    script.fail(DOOR_NOT_TOLD, first);
                }
            } else {
                script.fail(CANT_STAND, script.place);
            }
        }

        private void readRooms() {
            ones[lines] = script.number(MOST_DIGITS, ROOMS - 1);
            script.want('-');
            int second = script.place;
            if (script.isSound()) {
                others[lines] = script.number(MOST_DIGITS, ROOMS - 1);
            }
            if (script.isSound() && ones[lines] == others[lines]) {
                script.fail(ROOM_AND_ITSELF, second);
            }
            script.want('=');
            if (script.isSound()) {
                values[lines] = script.number(MOST_DIGITS, MOST_PRONGS);
            }
        }

        void carryOut(Doors doors, Town town) {
            for (int i = 0; i < lines && i < MOST_LINES; i++) {
                int number = numbers[i];
                if (sorts[i] == BEND) {
                    doors.bend(number, values[i]);
                } else if (sorts[i] == TELL) {
                    doors.tell(number, ones[i], others[i], values[i]);
                    town.unrust(number);
                } else {
                    doors.bar(number, sorts[i] == BAR);
                }
            }
            doors.fitAll();
        }
    }

    /** Reads THE LAW and writes it down as rows of steps. */
    private static final class LawReader {
        static final int MOST_OPEN = 6;
        static final int MOST_DIGITS = 5;
        static final int MOST_NUMBER = 99999;
        final Script script;
        Law law;

        LawReader(Script script, Law law) {
            this.script = script;
            this.law = law;
        }

        void read(Law into) {
            law = into;
            law.clear();
            for (int i = 0; i <= MOST_RULES && script.isSound(); i++) {
                readRule();
                if (!script.isSound() || script.isAtEnd()) {
                    return;
                }
                script.want(';');
            }
        }

        private void readRule() {
            int letter = script.sign;
            if (letter != 'e' && letter != 'j' && letter != 'x') {
                script.fail(CANT_STAND, script.place);
                return;
            }
            if (law.rules >= MOST_RULES) {
                script.fail(ONE_TOO_MANY, script.place);
                return;
            }
            script.step();
            int amount = law.size;
            if (letter != 'x') {
                readSum(0);
            }
            int condition = law.size;
            script.want('(');
            readChoice(1);
            script.want(')');
            law.endRule(letter, amount, condition);
        }

        /** Says whether what opens here may; where it stands has been looked at. */
        private boolean mayOpen(int open) {
            if (open >= MOST_OPEN) {
                script.fail(TOO_DEEP, script.place);
                return false;
            }
            script.step();
            return true;
        }

        private void readChoice(int open) {
            int jumps = NONE;
            for (int parts = 0; parts < LAW_BYTES && script.isSound(); parts++) {
                readPart(open);
                if (!script.take('|')) {
                    break;
                }
                jumps = law.add('|', jumps);
            }
            law.landJumps(jumps);
        }

        private void readPart(int open) {
            int jumps = NONE;
            for (int tests = 0; tests < LAW_BYTES && script.isSound(); tests++) {
                readTest(open);
                if (!script.take('&')) {
                    break;
                }
                jumps = law.add('&', jumps);
            }
            law.landJumps(jumps);
        }

        private void readTest(int open) {
            if (script.sign == '!') {
                if (mayOpen(open)) {
                    readTest(open + 1);
                    law.add('!', 0);
                }
            } else if (script.sign == '(') {
                if (mayOpen(open)) {
                    readChoice(open + 1);
                    script.want(')');
                }
            } else {
                readSum(open);
                int sign = script.sign;
                if (sign != '<' && sign != '>' && sign != '=') {
                    script.fail(CANT_STAND, script.place);
                }
                if (script.isSound()) {
                    script.step();
                    readSum(open);
                    law.add(sign, 0);
                }
            }
        }

        private void readSum(int open) {
            readTerm(open);
            for (int i = 0; i < LAW_BYTES && script.isSound(); i++) {
                int sign = script.sign;
                if (sign != '+' && sign != '-') {
                    return;
                }
                script.step();
                readTerm(open);
                law.add(sign, 0);
            }
        }

        private void readTerm(int open) {
            readFactor(open);
            for (int i = 0; i < LAW_BYTES && script.isSound(); i++) {
                int sign = script.sign;
                if (sign != '*' && sign != '/' && sign != '%') {
                    return;
                }
                script.step();
                readFactor(open);
                law.add(sign, 0);
            }
        }

        private void readFactor(int open) {
            int letter = Law.letterAt(script.sign);
            if (script.sign == '[') {
                if (mayOpen(open)) {
                    readSum(open + 1);
                    script.want(']');
                }
            } else if (letter != NONE) {
                law.add(Law.LETTER, letter);
                script.step();
            } else {
                law.add(Law.NUMBER, script.number(MOST_DIGITS, MOST_NUMBER));
            }
        }
    }

    /** THE LAW as steps over a stack; an & or | step goes on behind its part or choice as soon as that is settled. */
    private static final class Law {
        static final char[] LETTERS = {'w', 'r', 'd', 'o', 'u', 'k', 'n', 'p', 'c', 't'};
        static final int NUMBER = '0';
        static final int LETTER = 'a';
        static final int MOST_STEPS = 256;
        final int[] signs = new int[MOST_STEPS];
        final int[] values = new int[MOST_STEPS];
        final int[] stack = new int[64];
        final int[] letters = new int[MOST_RULES];
        final int[] amounts = new int[MOST_RULES];
        final int[] conditions = new int[MOST_RULES];
        final int[] ends = new int[MOST_RULES];
        int size;
        int rules;

        static int letterAt(int sign) {
            for (int i = 0; i < LETTERS.length; i++) {
                if (LETTERS[i] == sign) {
                    return i;
                }
            }
            return NONE;
        }

        void clear() {
            size = 0;
            rules = 0;
        }

        int add(int sign, int value) {
            if (size >= MOST_STEPS) {
                return NONE;
            }
            signs[size] = sign;
            values[size] = value;
            size++;
            return size - 1;
        }

        /** Until it lands, a jump's value is the jump before it. */
        void landJumps(int last) {
            int jump = last;
            for (int i = 0; i < MOST_STEPS && isWithin(jump, 0, MOST_STEPS - 1); i++) {
                int before = values[jump];
                values[jump] = size;
                jump = before;
            }
        }

        void endRule(int letter, int amount, int condition) {
            if (rules < MOST_RULES) {
                letters[rules] = letter;
                amounts[rules] = amount;
                conditions[rules] = condition;
                ends[rules] = size;
                rules++;
            }
        }

        boolean isAnyTrue(int letter, int[] known) {
            for (int i = 0; i < rules && i < MOST_RULES; i++) {
                if (letters[i] == letter && reckon(conditions[i], ends[i], known) != 0) {
                    return true;
                }
            }
            return false;
        }

        int amountOf(int letter, int most, int[] known) {
            for (int i = 0; i < rules && i < MOST_RULES; i++) {
                if (letters[i] == letter && reckon(conditions[i], ends[i], known) != 0) {
                    int amount = reckon(amounts[i], conditions[i], known);
                    return Math.max(0, Math.min(most, amount));
                }
            }
            return 0;
        }

        /** What is refused answers 0: as a condition that does not hold, as an amount 0. */
        private int reckon(int from, int to, int[] known) {
            int top = 0;
            int at = from;
            for (int i = 0; i < MOST_STEPS && at >= 0 && at < to && at < MOST_STEPS; i++) {
                int sign = signs[at];
                int value = values[at];
                at++;
                if (sign == NUMBER || sign == LETTER) {
                    if (top >= stack.length) {
                        return 0;
                    }
                    stack[top] = sign == NUMBER ? value : letterValue(value, known);
                    top++;
                } else if (top < 1) {
                    return 0;
                } else if (sign == '!') {
                    stack[top - 1] = 1 - stack[top - 1];
                } else if (sign == '&' || sign == '|') {
                    if ((stack[top - 1] == 0) == (sign == '&')) {
                        at = value;
                    } else {
                        top--;
                    }
                } else {
                    int right = stack[top - 1];
                    boolean isRefused = right == 0 && (sign == '/' || sign == '%');
                    if (isRefused || top < 2) {
                        return 0;
                    }
                    stack[top - 2] = joined(sign, stack[top - 2], right);
                    top--;
                }
            }
            return top > 0 ? stack[top - 1] : 0;
        }

        private static int letterValue(int letter, int[] known) {
            return letter >= 0 && letter < known.length ? known[letter] : 0;
        }

        private static int joined(int sign, int left, int right) {
            switch (sign) {
                case '+':
                    return left + right;
                case '-':
                    return left - right;
                case '*':
                    return left * right;
                case '/':
                    return right == 0 ? 0 : left / right;
                case '%':
                    return right == 0 ? 0 : left % right;
                case '<':
                    return left < right ? 1 : 0;
                case '>':
                    return left > right ? 1 : 0;
                default:
                    return left == right ? 1 : 0;
            }
        }
    }

    /** The doors and the kinds of pins: what stays when the rest is undone. */
    private static final class Doors {
        final int[] one = new int[DOORS];
        final int[] other = new int[DOORS];
        final int[] wards = new int[DOORS];
        final int[] fits = new int[DOORS];
        final int[] bent = new int[KINDS];
        int told;
        int barred;

        boolean isTold(int d) {
            return d >= 0 && d < DOORS && (told >> d & 1) != 0;
        }

        int unbarred() {
            return told & ~barred;
        }

        void tell(int d, int first, int second, int itsWards) {
            if (isWithin(d, 0, DOORS - 1)) {
                one[d] = first;
                other[d] = second;
                wards[d] = itsWards;
                told |= 1 << d;
                barred &= ~(1 << d);
            }
        }

        void bar(int d, boolean isBarred) {
            if (isTold(d)) {
                barred = isBarred ? barred | 1 << d : barred & ~(1 << d);
            }
        }

        void bend(int k, int itsProngs) {
            if (isWithin(k, 0, KINDS - 1)) {
                bent[k] = itsProngs;
            }
        }

        void fitAll() {
            for (int d = 0; d < DOORS; d++) {
                fits[d] = 0;
                for (int k = 0; k < KINDS; k++) {
                    if ((wards[d] & ~bent[k]) == 0) {
                        fits[d] |= 1 << k;
                    }
                }
            }
        }

        /** The room on the other side, NONE if the door isn't one of this room. */
        int behind(int d, int room) {
            if (!isTold(d)) {
                return NONE;
            }
            if (one[d] == room) {
                return other[d];
            }
            return other[d] == room ? one[d] : NONE;
        }

        int ofRoom(int room) {
            int bits = 0;
            for (int d = 0; d < DOORS; d++) {
                if (behind(d, room) != NONE) {
                    bits |= 1 << d;
                }
            }
            return bits;
        }

        /** The least bits of those sets of kinds that do with the fewest; NONE if none does. */
        int fewestKinds() {
            int best = NONE;
            for (int set = 0; set < 1 << KINDS; set++) {
                boolean isFewer = best == NONE || Integer.bitCount(set) < Integer.bitCount(best);
                if (isFewer && opensAll(set)) {
                    best = set;
                }
            }
            return best;
        }

        private boolean opensAll(int set) {
            for (int d = 0; d < DOORS; d++) {
                if (isTold(d) && (fits[d] & set) == 0) {
                    return false;
                }
            }
            return true;
        }

        int groupOf(int room, int which) {
            int group = 1 << room;
            for (int pass = 0; pass < ROOMS; pass++) {
                int before = group;
                for (int d = 0; d < DOORS; d++) {
                    int ends = 1 << one[d] | 1 << other[d];
                    if ((which >> d & 1) != 0 && (group & ends) != 0) {
                        group |= ends;
                    }
                }
                if (group == before) {
                    break;
                }
            }
            return group;
        }

        int groups() {
            int seen = 0;
            int many = 0;
            for (int room = 0; room < ROOMS; room++) {
                if ((seen >> room & 1) == 0) {
                    seen |= groupOf(room, unbarred());
                    many++;
                }
            }
            return many;
        }

        /** The doors whose two rooms hang together by no other way. */
        int onlyWays() {
            int which = unbarred();
            int bits = 0;
            for (int d = 0; d < DOORS; d++) {
                if ((which >> d & 1) != 0) {
                    int without = groupOf(one[d], which & ~(1 << d));
                    if ((without >> other[d] & 1) == 0) {
                        bits |= 1 << d;
                    }
                }
            }
            return bits;
        }
    }

    /** All that is kept and undone: rust, women, the round, X. */
    private static final class Town {
        final int[] rust = new int[DOORS];
        final int[] rooms = new int[WOMEN];
        final int[] hair = new int[WOMEN * KINDS];
        final int[] pins = new int[WOMEN * KINDS];
        int told;
        int round;
        int x = 1;

        void copy(Town from) {
            System.arraycopy(from.rust, 0, rust, 0, DOORS);
            System.arraycopy(from.rooms, 0, rooms, 0, WOMEN);
            System.arraycopy(from.hair, 0, hair, 0, WOMEN * KINDS);
            System.arraycopy(from.pins, 0, pins, 0, WOMEN * KINDS);
            told = from.told;
            round = from.round;
            x = from.x;
        }

        boolean isTold(int w) {
            return w >= 0 && w < WOMEN && (told >> w & 1) != 0;
        }

        void put(int w, int room) {
            if (isWithin(w, 0, WOMEN - 1)) {
                rooms[w] = room;
                told |= 1 << w;
            }
        }

        void dress(int w, int[] counts) {
            if (isTold(w) && counts.length == KINDS) {
                System.arraycopy(counts, 0, hair, w * KINDS, KINDS);
                System.arraycopy(counts, 0, pins, w * KINDS, KINDS);
            }
        }

        void unrust(int d) {
            if (isWithin(d, 0, DOORS - 1)) {
                rust[d] = 0;
            }
        }

        int roomOf(int w) {
            return isTold(w) ? rooms[w] : NONE;
        }

        int pinsOfKind(int w, int k) {
            return isTold(w) && isWithin(k, 0, KINDS - 1) ? pins[w * KINDS + k] : 0;
        }

        void takePin(int w, int k) {
            if (pinsOfKind(w, k) > 0) {
                pins[w * KINDS + k]--;
            }
        }

        int pinsOf(int w) {
            int sum = 0;
            for (int k = 0; k < KINDS && isTold(w); k++) {
                sum += pins[w * KINDS + k];
            }
            return sum;
        }

        int pinsOfAll() {
            int sum = 0;
            for (int i = 0; i < pins.length; i++) {
                sum += pins[i];
            }
            return sum;
        }

        int kindsLeft(int w) {
            int bits = 0;
            for (int k = 0; k < KINDS && isTold(w); k++) {
                if (pins[w * KINDS + k] > 0) {
                    bits |= 1 << k;
                }
            }
            return bits;
        }

        int inRoom(int room) {
            int bits = 0;
            for (int w = 0; w < WOMEN; w++) {
                if (isTold(w) && rooms[w] == room) {
                    bits |= 1 << w;
                }
            }
            return bits;
        }

        int whoPutUp(int k, int many) {
            int bits = 0;
            for (int w = 0; w < WOMEN; w++) {
                if (isTold(w) && isWithin(k, 0, KINDS - 1) && hair[w * KINDS + k] >= many) {
                    bits |= 1 << w;
                }
            }
            return bits;
        }

        int draw() {
            x = 25173 * x + 13849 & 65535;
            return x % 10;
        }
    }

    /** Lets rounds go by in a town, be it the real one or one that is tried. */
    private static final class Walk {
        static final int W = 0;
        static final int R = 1;
        static final int D = 2;
        static final int O = 3;
        static final int U = 4;
        static final int K = 5;
        static final int N = 6;
        static final int P = 7;
        static final int C = 8;
        static final int T = 9;
        static final int MOST_WISH = 9999;
        static final int MOST_TENTHS = 10;
        final int[] known = new int[10];
        int passed;
        int jammed;

        void go(Town town, Doors doors, Law law, int n) {
            passed = 0;
            jammed = 0;
            for (int i = 0; i < n && town.round < LAST_ROUND; i++) {
                for (int w = 0; w < WOMEN; w++) {
                    if (town.isTold(w)) {
                        step(town, doors, law, w);
                    }
                }
                town.round++;
            }
        }

        private void step(Town town, Doors doors, Law law, int w) {
            knowWoman(town, w);
            if (law.isAnyTrue('x', known)) {
                return;
            }
            int d = chooseDoor(town, doors, law, w);
            if (!doors.isTold(d)) {
                return;
            }
            knowDoor(town, doors, d);
            int tenths = law.amountOf('j', MOST_TENTHS, known);
            town.takePin(w, known[K]);
            if (town.draw() < tenths) {
                town.rust[d] = Math.min(MOST_RUST, town.rust[d] + 1);
                jammed++;
            } else {
                town.rooms[w] = known[O];
                passed++;
            }
        }

        private int chooseDoor(Town town, Doors doors, Law law, int w) {
            int left = town.kindsLeft(w);
            int which = doors.unbarred() & doors.ofRoom(town.roomOf(w));
            int best = NONE;
            int most = 0;
            for (int d = 0; d < DOORS; d++) {
                if ((which >> d & 1) != 0 && (doors.fits[d] & left) != 0) {
                    knowDoor(town, doors, d);
                    int wish = law.amountOf('e', MOST_WISH, known);
                    if (wish > most) {
                        most = wish;
                        best = d;
                    }
                }
            }
            return best;
        }

        private void knowWoman(Town town, int w) {
            Arrays.fill(known, 0);
            known[W] = w;
            known[R] = town.roomOf(w);
            known[P] = town.pinsOf(w);
            known[T] = town.round % 100;
        }

        private void knowDoor(Town town, Doors doors, int d) {
            int w = known[W];
            int fitting = doors.fits[d] & town.kindsLeft(w);
            if (fitting == 0) {
                return;
            }
            int k = Integer.numberOfTrailingZeros(fitting);
            known[D] = d;
            known[O] = doors.behind(d, known[R]);
            known[U] = town.rust[d];
            known[K] = k;
            known[N] = town.pinsOfKind(w, k);
            known[C] = Integer.bitCount(town.inRoom(known[O]));
        }
    }

    /** The rooms to which one comes by up to six doors, for each way to have used up pins. */
    private static final class Reach {
        static final int MOST_DOORS = 6;
        /** So many ways there are to use up to six pins of six kinds. */
        static final int WAYS = 924;
        /** The pins used of each kind are held in three bits each, how many in all above them. */
        static final int ALL_SHIFT = 3 * KINDS;
        /** Row i has how many ways there are to choose KINDS - i of 0 to 11. */
        static final int[] CHOOSE = {
            0, 0, 0, 0, 0, 0, 1, 7, 28, 84, 210, 462,
            0, 0, 0, 0, 0, 1, 6, 21, 56, 126, 252, 462,
            0, 0, 0, 0, 1, 5, 15, 35, 70, 126, 210, 330,
            0, 0, 0, 1, 4, 10, 20, 35, 56, 84, 120, 165,
            0, 0, 1, 3, 6, 10, 15, 21, 28, 36, 45, 55,
            0, 1, 2, 3, 4, 5, 6, 7, 8, 9, 10, 11};
        final int[] next = new int[KINDS * ROOMS];
        final int[] left = new int[KINDS];
        final int[] used = new int[WAYS];
        final int[] rooms = new int[WAYS];
        int size;

        void spread(Doors doors, Town town, int w, int from) {
            joinRooms(doors);
            for (int k = 0; k < KINDS; k++) {
                left[k] = town.pinsOfKind(w, k);
            }
            Arrays.fill(rooms, 0);
            used[0] = 0;
            rooms[0] = 1 << from;
            size = 1;
            // A way comes behind all that use fewer pins, so its rooms are whole when it is looked at.
            for (int i = 0; i < size && i < WAYS; i++) {
                if (used[i] >> ALL_SHIFT < MOST_DOORS) {
                    goOn(used[i]);
                }
            }
        }

        private void joinRooms(Doors doors) {
            Arrays.fill(next, 0);
            int which = doors.unbarred();
            for (int d = 0; d < DOORS; d++) {
                for (int k = 0; k < KINDS; k++) {
                    if ((which >> d & 1) != 0 && (doors.fits[d] >> k & 1) != 0) {
                        next[k * ROOMS + doors.one[d]] |= 1 << doors.other[d];
                        next[k * ROOMS + doors.other[d]] |= 1 << doors.one[d];
                    }
                }
            }
        }

        private void goOn(int way) {
            int here = rooms[placeOf(way)];
            int free = freeKinds(way);
            for (int k = 0; k < KINDS; k++) {
                int there = (free >> k & 1) != 0 ? roomsNextTo(here, k) : 0;
                if (there != 0) {
                    int further = way + (1 << 3 * k) + (1 << ALL_SHIFT);
                    int place = placeOf(further);
                    if (rooms[place] == 0 && size < WAYS) {
                        used[size] = further;
                        size++;
                    }
                    rooms[place] |= there;
                }
            }
        }

        private int roomsNextTo(int here, int k) {
            int there = 0;
            for (int room = 0; room < ROOMS; room++) {
                if ((here >> room & 1) != 0) {
                    there |= next[k * ROOMS + room];
                }
            }
            return there;
        }

        private int freeKinds(int way) {
            int bits = 0;
            for (int k = 0; k < KINDS; k++) {
                if ((way >> 3 * k & 7) < left[k]) {
                    bits |= 1 << k;
                }
            }
            return bits;
        }

        /** Numbers the ways 0 to 923 without a gap, as a table over all three-bit counts were far too large. */
        private static int placeOf(int way) {
            int place = 0;
            int behind = 0;
            for (int k = KINDS - 1; k >= 0; k--) {
                behind += way >> 3 * k & 7;
                int row = Math.min(11, behind + KINDS - 1 - k);
                place += CHOOSE[k * 12 + row];
            }
            return Math.min(WAYS - 1, place);
        }

        int allRooms() {
            int bits = 0;
            for (int i = 0; i < WAYS; i++) {
                bits |= rooms[i];
            }
            return bits;
        }

        int fewestTo(int room) {
            for (int i = 0; i < size && i < WAYS; i++) {
                if ((rooms[placeOf(used[i])] >> room & 1) != 0) {
                    return used[i] >> ALL_SHIFT;
                }
            }
            return NONE;
        }

        /** The lowest door of this room behind which one fewer is enough and a pin for the door is still left. */
        int firstDoor(Doors doors, int here, int fewest) {
            int which = doors.unbarred() & doors.ofRoom(here);
            int best = DOORS;
            for (int i = 0; i < size && i < WAYS; i++) {
                if (used[i] >> ALL_SHIFT == fewest - 1) {
                    best = Math.min(best, lowestDoor(doors, here, which, used[i]));
                }
            }
            return best;
        }

        private int lowestDoor(Doors doors, int here, int which, int way) {
            int there = rooms[placeOf(way)];
            int free = freeKinds(way);
            for (int d = 0; d < DOORS; d++) {
                if ((which >> d & 1) != 0 && (doors.fits[d] & free) != 0 && (there >> doors.behind(d, here) & 1) != 0) {
                    return d;
                }
            }
            return DOORS;
        }
    }

    /** What is asked of the tape alone. */
    private static final class Puzzles {
        static final int DAYS = 7;
        static final int COMBINATIONS = 1296;
        static final int COLOURS = 6;
        static final int CURLS = 4;
        static final int GUESS_BYTES = 6;
        static final int DIAL_SIGNS = 6;

        static boolean areColours(Tape tape, int n) {
            for (int i = 0; i < n; i++) {
                for (int c = 0; c < CURLS; c++) {
                    if (tape.at(GUESS_BYTES * i + c) >= COLOURS) {
                        return false;
                    }
                }
            }
            return true;
        }

        static int howManyCurls(Tape tape, int n) {
            int many = 0;
            for (int combination = 0; combination < COMBINATIONS; combination++) {
                if (couldBe(tape, n, combination)) {
                    many++;
                }
            }
            return many;
        }

        static int leastCurls(Tape tape, int n) {
            for (int combination = 0; combination < COMBINATIONS; combination++) {
                if (couldBe(tape, n, combination)) {
                    return combination;
                }
            }
            return CANNOT;
        }

        private static boolean couldBe(Tape tape, int n, int combination) {
            for (int i = 0; i < n; i++) {
                int first = GUESS_BYTES * i;
                int right = tape.at(first + CURLS);
                int elsewhere = tape.at(first + CURLS + 1);
                if (rightOnes(tape, first, combination) != right
                        || sharedOnes(tape, first, combination) != right + elsewhere) {
                    return false;
                }
            }
            return true;
        }

        private static int rightOnes(Tape tape, int first, int combination) {
            int right = 0;
            int rest = combination;
            for (int c = CURLS - 1; c >= 0; c--) {
                if (tape.at(first + c) == rest % COLOURS) {
                    right++;
                }
                rest /= COLOURS;
            }
            return right;
        }

        /** Counts of the colours stand in four bits each. */
        private static int sharedOnes(Tape tape, int first, int combination) {
            int guessed = 0;
            int real = 0;
            int rest = combination;
            for (int c = 0; c < CURLS; c++) {
                guessed += 1 << 4 * tape.at(first + c);
                real += 1 << 4 * (rest % COLOURS);
                rest /= COLOURS;
            }
            int shared = 0;
            for (int colour = 0; colour < COLOURS; colour++) {
                shared += Math.min(guessed >> 4 * colour & 15, real >> 4 * colour & 15);
            }
            return shared;
        }

        /** The rings go through the Gray code: its number is how many moves are left. */
        static int ringMoves(int on) {
            int moves = on;
            for (int shift = 1; shift <= 8; shift *= 2) {
                moves ^= moves >> shift;
            }
            return moves;
        }

        static boolean areDials(Tape tape, int n) {
            for (int i = 0; i < n; i++) {
                if (tape.at(i) >= DIAL_SIGNS) {
                    return false;
                }
            }
            return true;
        }

        static int dialTurns(Tape tape, int n) {
            int fewest = CANNOT;
            for (int first = 0; first < DIAL_SIGNS; first++) {
                int turns = turnsFrom(tape, n, first);
                if (turns != CANNOT && (fewest == CANNOT || turns < fewest)) {
                    fewest = turns;
                }
            }
            return fewest;
        }

        /** With the first dial's turns all others are settled: each dial's by what the one ahead of it still lacks. */
        private static int turnsFrom(Tape tape, int n, int first) {
            int before = 0;
            int now = first;
            int sum = first;
            for (int i = 0; i < n; i++) {
                int lacking = Math.floorMod(-(tape.at(i) + before + now), DIAL_SIGNS);
                before = now;
                now = lacking;
                sum += lacking;
            }
            return now == 0 ? sum : CANNOT;
        }

        static int mostWeight(Tape tape, int n) {
            int best = NONE;
            int most = 0;
            for (int i = 0; i < n; i++) {
                int weight = tape.at(i);
                int many = howManyWeigh(tape, n, weight);
                if (many > most || many == most && weight < best) {
                    most = many;
                    best = weight;
                }
            }
            return best;
        }

        static int howManyWeigh(Tape tape, int n, int weight) {
            int many = 0;
            for (int i = 0; i < n; i++) {
                if (tape.at(i) == weight) {
                    many++;
                }
            }
            return many;
        }

        static int firstOfAnother(Tape tape, int n, int weight) {
            for (int i = 0; i < n; i++) {
                if (tape.at(i) != weight) {
                    return i;
                }
            }
            return CANNOT;
        }

        /** What goes round the whole week is free, and best so that one day hands nothing on to the next. */
        static int weekSteps(Tape tape) {
            int sum = 0;
            for (int day = 0; day < DAYS; day++) {
                sum += tape.at(day);
            }
            if (sum % DAYS != 0) {
                return CANNOT;
            }
            int share = sum / DAYS;
            int fewest = stepsFrom(tape, 0, share);
            for (int still = 1; still < DAYS; still++) {
                fewest = Math.min(fewest, stepsFrom(tape, still, share));
            }
            return fewest;
        }

        private static int stepsFrom(Tape tape, int still, int share) {
            int handed = 0;
            int steps = 0;
            for (int i = 0; i < DAYS; i++) {
                handed += tape.at((still + i) % DAYS) - share;
                steps += Math.abs(handed);
            }
            return steps;
        }
    }
}
