import java.util.Arrays;

/**
 * As many servers as are needed: services of a house, whose measures want servers round by round.
 * The words in capitals, and the numbers of the promises, are those of the document (DOC.md).
 */
public final class EnoughServers {
    public static final int NONE = -1, UNKNOWN = -1000001, OUTSIDE = -1000002, NOT = -1000003, FULL = -1000004;

    private static final int MOST_BYTES = 160, MOST_SERVICES = 4, MOST_MEASURES = 3;
    private static final int MOST_VALUE = 9999, MOST_ACTS = 10, PAST_ROUNDS = 18, MOST_AHEAD = 50;
    private static final int MOST_FORESEEN = 12, MOST_NEEDED = 99;
    private static final int MOST_WINDOW = 6, MOST_COLD = 6, SEASONS_BACK = 3, REPLAY_CAPACITY = 60;
    private static final int COSTS_OF_LACK = 5, COSTS_OF_FLUTTER = 3;

    /** Numbers of a HOUSE, by their places in its row. */
    private static final int CAPACITY = 0, COLD = 1, POOL = 2, REFILL = 3, SEASON = 4, HOUSE_NUMBERS = 5;
    private static final int[] HOUSE_FROM = {1, 1, 0, 0, 2};
    private static final int[] HOUSE_TO = {60, 6, 9, 3, 6};

    /** Numbers of a SERVICE, by their places in its row, which are also the numbers of set() and service(). */
    private static final int LEAST = 0, MOST = 1, RANK = 2, UP = 3, DOWN = 4, ADD = 5, PERCENT = 6, DROP = 7;
    private static final int PERIOD = 8, SERVICE_NUMBERS = 9;
    private static final int[] SERVICE_FROM = {0, 1, 0, 1, 1, 0, 0, 0, 1};
    private static final int[] SERVICE_TO = {9, 20, 9, 6, 6, 9, 99, 9, 4};

    private static final int TOTAL = 1, FORESEEN = 2, AVERAGE = 3, QUEUE = 4;
    private static final int MOST_TARGET = 99;

    private static final int CAUSE_WINDOW = 1, CAUSE_STEP = 2, CAUSE_EDGE = 3, CAUSE_HOUSE = 4;

    /** Rings have powers of two as lengths: a round number and the mask are an index that always fits. */
    private static final int PAST_RING = 32, PAST_MASK = 31, ROUND_RING = 8, ROUND_MASK = 7, MOVE_RING = 4, MOVE_MASK = 3;

    private final Text text = new Text();
    private final House current = new House();
    private final House tried = new House();
    private final House[] kept = new House[MOST_ACTS];
    private int nextKept = 0;
    private int undoable = 0;
    private boolean standing = false;

    public EnoughServers() {
        for (int i = 0; i < MOST_ACTS; i++) {
            kept[i] = new House();
        }
    }

    // ---- texts

    public int write(int letter) {
        if (letter < 0 || letter > 255) {
            return OUTSIDE;
        }
        return text.takesIn(letter) ? text.size : FULL;
    }

    public int house() {
        boolean right = text.readInto(tried);
        text.size = 0;
        if (!right) {
            return -100 - text.place;
        }
        tried.begin();
        current.copyFrom(tried);
        standing = true;
        undoable = 0;
        return current.serviceCount;
    }

    public int fault() {
        return text.faultKind;
    }

    // ---- what is done

    public int load(int service, int measure, int value) {
        if (!hasMeasure(service, measure)) {
            return UNKNOWN;
        }
        if (value < NONE || value > MOST_VALUE) {
            return OUTSIDE;
        }
        keepForUndo();
        Measure told = current.services[service].measures[measure];
        int before = told.value;
        told.value = value;
        return before;
    }

    public int set(int service, int which, int v) {
        if (!hasService(service)) {
            return UNKNOWN;
        }
        if (which < 0 || which >= SERVICE_NUMBERS || v < SERVICE_FROM[which] || v > SERVICE_TO[which]) {
            return OUTSIDE;
        }
        int[] numbers = current.services[service].numbers;
        if (which == MOST && numbers[LEAST] > v) {
            return NOT;
        }
        if (which == LEAST && (v > numbers[MOST] || current.leasts() - numbers[LEAST] + v > current.numbers[CAPACITY])) {
            return NOT;
        }
        keepForUndo();
        int before = numbers[which];
        numbers[which] = v;
        return before;
    }

    public int round() {
        if (!standing) {
            return UNKNOWN;
        }
        keepForUndo();
        current.playRound();
        return current.servers();
    }

    public int undo() {
        if (!standing) {
            return UNKNOWN;
        }
        if (undoable == 0) {
            return NOT;
        }
        nextKept = nextKept == 0 ? MOST_ACTS - 1 : nextKept - 1;
        current.copyFrom(kept[nextKept]);
        undoable--;
        return undoable;
    }

    // ---- what there is

    public int service(int service, int what) {
        if (!hasService(service)) {
            return UNKNOWN;
        }
        Service asked = current.services[service];
        if (what >= 0 && what < SERVICE_NUMBERS) {
            return asked.numbers[what];
        }
        switch (what) {
            case 9: return asked.measureCount;
            case 10: return asked.count;
            case 11: return asked.ready;
            case 12: return asked.nextReadyRound(current.round);
            case 13: return asked.spent;
            case 14: return asked.lack;
            case 15: return asked.flutters;
            default: return OUTSIDE;
        }
    }

    public int measure(int service, int measure, int what) {
        if (!hasMeasure(service, measure)) {
            return UNKNOWN;
        }
        Measure asked = current.services[service].measures[measure];
        int past = current.pastRounds();
        if (what >= 10 && what < 10 + past) {
            return asked.past[(current.round - 1 - (what - 10)) & PAST_MASK];
        }
        switch (what) {
            case 0: return asked.kind;
            case 1: return asked.target;
            case 2: return asked.value;
            case 3: return current.wantOf(current.services[service], asked);
            case 4: return past;
            default: return OUTSIDE;
        }
    }

    public int starting(int service, int round) {
        if (!hasService(service)) {
            return UNKNOWN;
        }
        if (round < current.round || round > current.round + MOST_COLD) {
            return OUTSIDE;
        }
        return current.services[service].starting[round & ROUND_MASK];
    }

    public int count(int what) {
        if (what == 10) {
            return text.size;
        }
        if (!standing) {
            return UNKNOWN;
        }
        if (what >= 4 && what < 4 + HOUSE_NUMBERS) {
            return current.numbers[what - 4];
        }
        switch (what) {
            case 0: return current.round;
            case 1: return current.serviceCount;
            case 2: return current.servers();
            case 3: return current.pool;
            case 9: return undoable;
            default: return OUTSIDE;
        }
    }

    // ---- tried

    public int would(int service, int what) {
        if (!hasService(service)) {
            return UNKNOWN;
        }
        if (what < 0 || what > 5) {
            return OUTSIDE;
        }
        Service then = afterOneRound(service);
        switch (what) {
            case 0: return then.want;
            case 1: return then.steady;
            case 2: return then.bound;
            case 3: return then.due;
            case 4: return then.count;
            default: return then.place;
        }
    }

    public int why(int service, int i) {
        if (!hasService(service)) {
            return UNKNOWN;
        }
        if (i < 0) {
            return OUTSIDE;
        }
        Service then = afterOneRound(service);
        int left = i;
        for (int cause = CAUSE_HOUSE; cause >= CAUSE_WINDOW; cause--) {
            if (then.isHeldBy(cause)) {
                if (left == 0) {
                    return cause;
                }
                left--;
            }
        }
        return NONE;
    }

    public int forecast(int service, int measure, int h) {
        if (!hasMeasure(service, measure)) {
            return UNKNOWN;
        }
        if (h < 0 || h > MOST_FORESEEN) {
            return OUTSIDE;
        }
        return current.services[service].measures[measure].foresee(current.round, h, current.numbers[SEASON]);
    }

    public int ahead(int n, int what) {
        if (!standing) {
            return UNKNOWN;
        }
        if (n < 1 || n > MOST_AHEAD || what < 0 || what > 3) {
            return OUTSIDE;
        }
        tried.copyFrom(current);
        for (int i = 0; i < n; i++) {
            tried.playRound();
        }
        switch (what) {
            case 0: return tried.servers();
            case 1: return tried.spentByAll() - current.spentByAll();
            case 2: return tried.lackOfAll() - current.lackOfAll();
            default: return tried.pool;
        }
    }

    public int until(int service, int n) {
        if (!hasService(service)) {
            return UNKNOWN;
        }
        if (n < 1 || n > SERVICE_TO[MOST]) {
            return OUTSIDE;
        }
        tried.copyFrom(current);
        Service then = tried.services[service];
        for (int i = 1; i <= MOST_AHEAD; i++) {
            tried.playRound();
            if (then.readyIn(tried.round) >= n) {
                return i;
            }
        }
        return NONE;
    }

    public int needs(int service, int measure, int n) {
        if (!hasMeasure(service, measure)) {
            return UNKNOWN;
        }
        if (n < 0 || n > MOST_NEEDED) {
            return OUTSIDE;
        }
        Service asked = current.services[service];
        Measure changed = asked.measures[measure];
        if (current.wantBeside(asked, measure) >= n) {
            return 0;
        }
        int foreseen = changed.foresee(current.round, current.numbers[COLD], current.numbers[SEASON]);
        return changed.leastValue(n, asked.count, asked.readyIn(current.round), foreseen);
    }

    public int replay(int service, int u, int d, int what) {
        if (!hasService(service)) {
            return UNKNOWN;
        }
        if (u < 1 || u > MOST_WINDOW || d < 1 || d > MOST_WINDOW || what < 0 || what > 2) {
            return OUTSIDE;
        }
        Service then = replayed(service, u, d);
        switch (what) {
            case 0: return then.spent;
            case 1: return then.lack;
            default: return then.flutters;
        }
    }

    public int best(int service) {
        if (!hasService(service)) {
            return UNKNOWN;
        }
        int windows = NONE;
        int least = 0;
        for (int u = 1; u <= MOST_WINDOW; u++) {
            for (int d = 1; d <= MOST_WINDOW; d++) {
                int costs = replayed(service, u, d).costs();
                if (windows == NONE || costs < least) {
                    windows = 10 * u + d;
                    least = costs;
                }
            }
        }
        return windows;
    }

    // ---- what the calls share

    private boolean hasService(int service) {
        return standing && service >= 0 && service < current.serviceCount;
    }

    private boolean hasMeasure(int service, int measure) {
        return hasService(service) && measure >= 0 && measure < current.services[service].measureCount;
    }

    private void keepForUndo() {
        kept[nextKept].copyFrom(current);
        nextKept = nextKept == MOST_ACTS - 1 ? 0 : nextKept + 1;
        undoable = Math.min(undoable + 1, MOST_ACTS);
    }

    private Service afterOneRound(int service) {
        tried.copyFrom(current);
        tried.playRound();
        return tried.services[service];
    }

    private Service replayed(int service, int u, int d) {
        Service asked = current.services[service];
        tried.standAlone(current, asked);
        Service then = tried.services[0];
        then.numbers[UP] = u;
        then.numbers[DOWN] = d;
        int rounds = current.pastRounds();
        for (int i = 0; i < rounds; i++) {
            then.tellValues(asked, current.round - rounds + i);
            tried.playRound();
        }
        return then;
    }

    private static int cut(int part, int by) {
        return by < 1 ? 0 : part / by;
    }

    private static int cutUp(int part, int by) {
        return by < 1 ? 0 : (part + by - 1) / by;
    }

    /** THE TEXT, and the reading of it, TOKEN by TOKEN. */
    private static final class Text {
        /** What a TOKEN is that is no byte of its own. */
        private static final int END = -1, FIGURES = -2;
        private static final int BLANK = 32;
        /** Above all bounds, so that figures of more than two digits fail as a number does that is too great. */
        private static final int TOO_LONG = 100;

        private final int[] bytes = new int[MOST_BYTES];
        private int size = 0;
        private int next = 0;
        private int place = 0;
        private int token = END;
        private int number = 0;
        private int faultKind = 0;

        private boolean takesIn(int letter) {
            if (size >= MOST_BYTES) {
                return false;
            }
            bytes[size] = letter;
            size++;
            return true;
        }

        private boolean readInto(House draft) {
            next = 0;
            faultKind = 0;
            draft.serviceCount = 0;
            step();
            return readHouse(draft) && readServices(draft);
        }

        private boolean readHouse(House draft) {
            if (!passes('h')) {
                return false;
            }
            for (int i = 0; i < HOUSE_NUMBERS; i++) {
                if (!isNumber(HOUSE_FROM[i], HOUSE_TO[i])) {
                    return false;
                }
                draft.numbers[i] = number;
                step();
                if (!passes(i == HOUSE_NUMBERS - 1 ? ';' : ',')) {
                    return false;
                }
            }
            return true;
        }

        private boolean readServices(House draft) {
            for (int i = 0; i < MOST_SERVICES; i++) {
                if (i > 0 && token == END) {
                    return true;
                }
                if (!passes('s') || !readNumbers(draft, draft.services[i]) || !readMeasures(draft.services[i])) {
                    return false;
                }
                draft.serviceCount = i + 1;
            }
            return token == END || fails(token == 's' ? 3 : 1);
        }

        private boolean readNumbers(House draft, Service service) {
            int leasts = draft.leasts();
            for (int i = 0; i < SERVICE_NUMBERS; i++) {
                int from = i == MOST ? Math.max(SERVICE_FROM[i], service.numbers[LEAST]) : SERVICE_FROM[i];
                if (!isNumber(from, SERVICE_TO[i])) {
                    return false;
                }
                if (i == LEAST && leasts + number > draft.numbers[CAPACITY]) {
                    return fails(4);
                }
                service.numbers[i] = number;
                step();
                if (!passes(i == SERVICE_NUMBERS - 1 ? ';' : ',')) {
                    return false;
                }
            }
            return true;
        }

        private boolean readMeasures(Service service) {
            service.measureCount = 0;
            for (int i = 0; i < MOST_MEASURES; i++) {
                int kind = kindOf(token);
                if (kind == NONE) {
                    return true;
                }
                step();
                if (!isNumber(1, MOST_TARGET)) {
                    return false;
                }
                service.measures[i].kind = kind;
                service.measures[i].target = number;
                step();
                if (!passes(';')) {
                    return false;
                }
                service.measureCount = i + 1;
            }
            return kindOf(token) == NONE || fails(3);
        }

        private static int kindOf(int sort) {
            switch (sort) {
                case 't': return TOTAL;
                case 'f': return FORESEEN;
                case 'a': return AVERAGE;
                case 'q': return QUEUE;
                default: return NONE;
            }
        }

        private boolean passes(int wanted) {
            if (token != wanted) {
                return fails(1);
            }
            step();
            return true;
        }

        private boolean isNumber(int from, int to) {
            if (token != FIGURES) {
                return fails(1);
            }
            if (number < from || number > to) {
                return fails(2);
            }
            return true;
        }

        private boolean fails(int kind) {
            faultKind = kind;
            return false;
        }

        /** On to the next TOKEN: its place, what it is, and its number if it is figures. */
        private void step() {
            while (next < size && next < MOST_BYTES && bytes[next] == BLANK) {
                next++;
            }
            place = next;
            if (next >= size || next >= MOST_BYTES) {
                token = END;
                return;
            }
            if (!isDigit(bytes[next])) {
                token = bytes[next];
                next++;
                return;
            }
            token = FIGURES;
            number = 0;
            while (next < size && next < MOST_BYTES && isDigit(bytes[next])) {
                number = next - place < 2 ? 10 * number + bytes[next] - '0' : TOO_LONG;
                next++;
            }
        }

        private static boolean isDigit(int letter) {
            return letter >= '0' && letter <= '9';
        }
    }

    /** A HOUSE between two ROUNDS; copies of one are tried, and kept for undo(). */
    private static final class House {
        private final int[] numbers = new int[HOUSE_NUMBERS];
        private final Service[] services = new Service[MOST_SERVICES];
        private int serviceCount = 0;
        private int pool = 0;
        private int round = 0;

        private House() {
            for (int i = 0; i < MOST_SERVICES; i++) {
                services[i] = new Service();
            }
        }

        private void begin() {
            round = 0;
            pool = numbers[POOL];
            for (int i = 0; i < serviceCount; i++) {
                services[i].begin();
            }
        }

        private void copyFrom(House other) {
            System.arraycopy(other.numbers, 0, numbers, 0, HOUSE_NUMBERS);
            serviceCount = other.serviceCount;
            pool = other.pool;
            round = other.round;
            for (int i = 0; i < serviceCount; i++) {
                services[i].copyFrom(other.services[i]);
            }
        }

        /** The house of a REPLAY: one SERVICE, room for all that it can want, no pool. */
        private void standAlone(House other, Service service) {
            System.arraycopy(other.numbers, 0, numbers, 0, HOUSE_NUMBERS);
            numbers[CAPACITY] = REPLAY_CAPACITY;
            numbers[POOL] = 0;
            serviceCount = 1;
            services[0].takeShape(service);
            begin();
        }

        private int pastRounds() {
            return Math.min(round, PAST_ROUNDS);
        }

        private int leasts() {
            int sum = 0;
            for (int i = 0; i < serviceCount; i++) {
                sum += services[i].numbers[LEAST];
            }
            return sum;
        }

        private int servers() {
            int sum = 0;
            for (int i = 0; i < serviceCount; i++) {
                sum += services[i].count;
            }
            return sum;
        }

        private int spentByAll() {
            int sum = 0;
            for (int i = 0; i < serviceCount; i++) {
                sum += services[i].spent;
            }
            return sum;
        }

        private int lackOfAll() {
            int sum = 0;
            for (int i = 0; i < serviceCount; i++) {
                sum += services[i].lack;
            }
            return sum;
        }

        private int wantOf(Service service, Measure measure) {
            int foreseen = measure.kind == FORESEEN ? measure.foresee(round, numbers[COLD], numbers[SEASON]) : 0;
            return measure.wantBy(measure.value, service.count, service.readyIn(round), foreseen);
        }

        /** The greatest WANT of a SERVICE's MEASURES, but for that one which is left out (NONE: none is). */
        private int wantBeside(Service service, int left) {
            int greatest = 0;
            for (int i = 0; i < service.measureCount; i++) {
                if (i != left) {
                    greatest = Math.max(greatest, wantOf(service, service.measures[i]));
                }
            }
            return greatest;
        }

        private void playRound() {
            for (int i = 0; i < serviceCount; i++) {
                services[i].wake(round);
            }
            for (int i = 0; i < serviceCount; i++) {
                Service service = services[i];
                service.want = service.measureCount == 0 ? service.numbers[LEAST] : wantBeside(service, NONE);
                service.plan(round);
            }
            for (int i = 0; i < serviceCount; i++) {
                services[i].giveUpTooMany(round);
            }
            giveOut();
            pool = Math.min(pool + numbers[REFILL], numbers[POOL]);
            for (int i = 0; i < serviceCount; i++) {
                services[i].close(round);
            }
            round++;
        }

        private void giveOut() {
            int free = Math.max(numbers[CAPACITY] - servers(), 0);
            for (int place = 0; place < serviceCount; place++) {
                int first = firstInNeed();
                if (first == NONE) {
                    return;
                }
                Service service = services[first];
                int many = Math.min(service.due - service.count, free);
                int warm = Math.min(many, pool);
                service.place = place;
                service.get(round, many, warm, numbers[COLD]);
                free -= many;
                pool -= warm;
            }
        }

        /** Which SERVICE is next in step 4, of those that have no place yet. */
        private int firstInNeed() {
            int first = NONE;
            for (int i = 0; i < serviceCount; i++) {
                Service service = services[i];
                boolean waits = service.place == NONE && service.count < service.due;
                if (waits && (first == NONE || service.goesBefore(services[first]))) {
                    first = i;
                }
            }
            return first;
        }
    }

    /** A SERVICE with its servers, what it had in former ROUNDS, and the latest ROUND's plan for it. */
    private static final class Service {
        private final int[] numbers = new int[SERVICE_NUMBERS];
        private final Measure[] measures = new Measure[MOST_MEASURES];
        private int measureCount = 0;
        private int count = 0;
        private int ready = 0;
        /** How many will be READY in a ROUND, by the ROUND. */
        private final int[] starting = new int[ROUND_RING];
        private final int[] wants = new int[ROUND_RING];
        /** How many it got in a ROUND; below 0: gave up. No ROUND has both. */
        private final int[] moves = new int[MOVE_RING];
        private int lastMove = 0;
        private int spent = 0;
        private int lack = 0;
        private int flutters = 0;
        private int want = 0;
        private int steady = 0;
        private int bound = 0;
        private int due = 0;
        private int place = NONE;

        private Service() {
            for (int i = 0; i < MOST_MEASURES; i++) {
                measures[i] = new Measure();
            }
        }

        private void begin() {
            count = numbers[LEAST];
            ready = count;
            Arrays.fill(starting, 0);
            lastMove = 0;
            spent = 0;
            lack = 0;
            flutters = 0;
            for (int i = 0; i < measureCount; i++) {
                measures[i].value = NONE;
            }
        }

        /** Only what lasts from ROUND to ROUND: the plan is made anew in each. */
        private void copyFrom(Service other) {
            takeShape(other);
            count = other.count;
            ready = other.ready;
            System.arraycopy(other.starting, 0, starting, 0, ROUND_RING);
            System.arraycopy(other.wants, 0, wants, 0, ROUND_RING);
            System.arraycopy(other.moves, 0, moves, 0, MOVE_RING);
            lastMove = other.lastMove;
            spent = other.spent;
            lack = other.lack;
            flutters = other.flutters;
            for (int i = 0; i < measureCount; i++) {
                measures[i].value = other.measures[i].value;
                System.arraycopy(other.measures[i].past, 0, measures[i].past, 0, PAST_RING);
            }
        }

        /** The numbers and the MEASURES of another one, without what happened to it. */
        private void takeShape(Service other) {
            System.arraycopy(other.numbers, 0, numbers, 0, SERVICE_NUMBERS);
            measureCount = other.measureCount;
            for (int i = 0; i < measureCount; i++) {
                measures[i].kind = other.measures[i].kind;
                measures[i].target = other.measures[i].target;
            }
        }

        private void tellValues(Service other, int round) {
            for (int i = 0; i < measureCount; i++) {
                measures[i].value = other.measures[i].past[round & PAST_MASK];
            }
        }

        /** READY with step 1 of this ROUND done, whether it is yet or not. */
        private int readyIn(int round) {
            return ready + starting[round & ROUND_MASK];
        }

        private int nextReadyRound(int round) {
            for (int i = 0; i <= MOST_COLD; i++) {
                if (starting[(round + i) & ROUND_MASK] > 0) {
                    return round + i;
                }
            }
            return NONE;
        }

        private void wake(int round) {
            ready += starting[round & ROUND_MASK];
            starting[round & ROUND_MASK] = 0;
        }

        private void plan(int round) {
            steady = steadied(round);
            bound = bounded(round);
            due = Math.min(Math.max(bound, numbers[LEAST]), numbers[MOST]);
            place = NONE;
            moves[round & MOVE_MASK] = 0;
        }

        private int steadied(int round) {
            int least = want;
            int greatest = want;
            for (int back = 1; back < MOST_WINDOW && back <= round; back++) {
                int then = wants[(round - back) & ROUND_MASK];
                if (back < numbers[UP]) {
                    least = Math.min(least, then);
                }
                if (back < numbers[DOWN]) {
                    greatest = Math.max(greatest, then);
                }
            }
            if (count < least) {
                return least;
            }
            return Math.min(count, greatest);
        }

        private int bounded(int round) {
            int gained = 0;
            int lost = 0;
            for (int back = 1; back < numbers[PERIOD] && back <= round; back++) {
                int move = moves[(round - back) & MOVE_MASK];
                gained += Math.max(move, 0);
                lost += Math.max(-move, 0);
            }
            if (steady < count) {
                int floor = count + lost - numbers[DROP];
                return Math.min(Math.max(steady, floor), count);
            }
            int base = Math.max(count - gained, 0);
            int ceiling = base + Math.max(numbers[ADD], cutUp(base * numbers[PERCENT], 100));
            return Math.max(Math.min(steady, ceiling), count);
        }

        private void giveUpTooMany(int round) {
            if (count <= due) {
                return;
            }
            int left = count - due;
            moves[round & MOVE_MASK] = -left;
            for (int i = MOST_COLD; i > 0; i--) {
                int slot = (round + i) & ROUND_MASK;
                int gone = Math.min(starting[slot], left);
                starting[slot] -= gone;
                left -= gone;
            }
            ready -= left;
            count = due;
        }

        /** Whether it is served first in step 4; not so, if the two are alike. */
        private boolean goesBefore(Service other) {
            if (numbers[RANK] != other.numbers[RANK]) {
                return numbers[RANK] > other.numbers[RANK];
            }
            return count * other.due < other.count * due;
        }

        private void get(int round, int many, int warm, int cold) {
            starting[(round + 1) & ROUND_MASK] += warm;
            starting[(round + cold) & ROUND_MASK] += many - warm;
            count += many;
            moves[round & MOVE_MASK] = many;
        }

        private void close(int round) {
            spent += count;
            lack += Math.max(want - ready, 0);
            int move = moves[round & MOVE_MASK];
            if (move > 0 && lastMove < 0 || move < 0 && lastMove > 0) {
                flutters++;
            }
            if (move != 0) {
                lastMove = move;
            }
            wants[round & ROUND_MASK] = want;
            for (int i = 0; i < measureCount; i++) {
                measures[i].past[round & PAST_MASK] = measures[i].value;
            }
        }

        private int costs() {
            return spent + COSTS_OF_LACK * lack + COSTS_OF_FLUTTER * flutters;
        }

        /** Of the plan of a ROUND that is done: the house held it if it has fewer than were DUE. */
        private boolean isHeldBy(int cause) {
            switch (cause) {
                case CAUSE_HOUSE: return count < due;
                case CAUSE_EDGE: return due != bound;
                case CAUSE_STEP: return bound != steady;
                case CAUSE_WINDOW: return steady != want;
                default: return false;
            }
        }
    }

    /** A MEASURE; its value is NONE while it MISSES. */
    private static final class Measure {
        /** So many halvings leave one of all VALUES. */
        private static final int HALVINGS = 14;

        private int kind = TOTAL;
        private int target = 1;
        private int value = NONE;
        private final int[] past = new int[PAST_RING];

        private int wantBy(int load, int count, int ready, int foreseen) {
            if (load == NONE) {
                return count;
            }
            switch (kind) {
                case FORESEEN:
                    return cutUp(Math.max(load, foreseen), target);
                case AVERAGE:
                    return 10 * Math.abs(load - target) <= target ? count : cutUp(Math.max(ready, 1) * load, target);
                case QUEUE:
                    return load == 0 ? Math.max(count - 1, 0) : count + cut(load - 1, target);
                default:
                    return cutUp(load, target);
            }
        }

        private int foresee(int round, int h, int season) {
            int sum = 0;
            int many = 0;
            for (int i = 1; i <= SEASONS_BACK; i++) {
                int then = round + h - i * season;
                if (then < round && then >= 0 && then >= round - PAST_ROUNDS && past[then & PAST_MASK] != NONE) {
                    sum += past[then & PAST_MASK];
                    many++;
                }
            }
            return cutUp(sum, many);
        }

        /**
         * The least VALUE by which it wants n or more. An AVERAGE wants COUNT near its TARGET, which may be more than
         * it wants above: but below, near and above the TARGET, no KIND wants less by a greater VALUE.
         */
        private int leastValue(int n, int count, int ready, int foreseen) {
            int near = cut(target, 10);
            int last = target - near - 1;
            for (int part = 0; part < 3; part++) {
                if (wantBy(last, count, ready, foreseen) >= n) {
                    return leastUpTo(last, n, count, ready, foreseen);
                }
                last = part == 0 ? target + near : MOST_VALUE;
            }
            return NONE;
        }

        /** By halves: the last VALUE wants n or more, and none does of the parts before that which it ends. */
        private int leastUpTo(int last, int n, int count, int ready, int foreseen) {
            int low = 0;
            int high = last;
            for (int i = 0; i < HALVINGS && low < high; i++) {
                int middle = (low + high) / 2;
                if (wantBy(middle, count, ready, foreseen) >= n) {
                    high = middle;
                } else {
                    low = middle + 1;
                }
            }
            return high;
        }
    }
}
