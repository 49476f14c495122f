import java.util.Arrays;

/** Simulates a pipeline of operators that processes a stream of records; README.md tells how to use it. */
public final class PipelineSimulator {
    public static final int NONE = -1000000001;
    public static final int BAD_ARGUMENT = -1000000002;
    public static final int FULL = -1000000003;
    public static final int BEGUN = -1000000004;
    public static final int BUSY = -1000000005;

    private static final int MAP = 0;
    private static final int FILTER = 1;
    private static final int REKEY = 2;
    private static final int COPIES = 3;
    private static final int SUMS = 4;
    private static final int CHANGES = 5;
    private static final int RECORDS = 6;
    private static final int SOURCE = 7;
    private static final int SINK = 8;

    private static final int CANNOT_PUT_RECORD = 1;
    private static final int CANNOT_PUT_BARRIER = 2;
    private static final int ALIGNING = 3;
    private static final int NOTHING_TO_TAKE = 4;
    private static final int NOT_WAITING = 5;

    private static final int MOST_STAGES = 4;
    private static final int MOST_OPERATORS = 6;
    private static final int MOST_INSTANCES = 3;
    private static final int MOST_CHANNELS = 45;
    private static final int MOST_RECORDS = 60;
    private static final int MOST_SIGNS = 60;
    private static final int MOST_LEVELS = 8;
    private static final int KEYS = 16;
    private static final int SYNTAX_ERROR = -2000;
    private static final String LETTERS = "mfkcsdr";

    private final StringBuilder text;
    private final StringBuilder writing;
    private final Reader reader;
    private final Simulation simulation;
    private final Plain plainRun;
    private final Explanation latestExplanation;

    public PipelineSimulator() {
        text = new StringBuilder();
        writing = new StringBuilder();
        reader = new Reader(text);
        simulation = new Simulation();
        plainRun = new Plain(simulation);
        latestExplanation = new Explanation(simulation);
    }

    public int append(int code, int count) {
        if (code < 0 || code > 127 || count < 1 || count > MOST_SIGNS) {
            return BAD_ARGUMENT;
        }
        if (text.length() + count > MOST_SIGNS) {
            return FULL;
        }
        for (int i = 0; i < count; i++) {
            text.append((char) code);
        }
        return text.length();
    }

    public int readPipeline() {
        boolean good = reader.readAll();
        text.setLength(0);
        if (!good) {
            return SYNTAX_ERROR - reader.position;
        }
        simulation.replacePipeline(reader);
        plainRun.forget();
        return simulation.stages;
    }

    public int configure(int size, int age, int credits, int rate) {
        if (size < 1 || size > 4 || age < 1 || age > 9) {
            return BAD_ARGUMENT;
        }
        if (credits < 2 || credits > 4 || rate < 1 || rate > 5) {
            return BAD_ARGUMENT;
        }
        if (simulation.begun) {
            return BEGUN;
        }
        int before = simulation.settings.digits();
        simulation.settings.change(size, age, credits, rate);
        return before;
    }

    public int push(int key, int value) {
        if (key < 0 || key >= KEYS || value < -99 || value > 99) {
            return BAD_ARGUMENT;
        }
        if (simulation.input.size >= MOST_RECORDS) {
            return FULL;
        }
        simulation.input.add(key, value, 0);
        return simulation.input.size;
    }

    public int tick(int limit) {
        if (limit < 1 || limit > 200) {
            return BAD_ARGUMENT;
        }
        for (int performed = 0; performed < limit; performed++) {
            if (simulation.quiet()) {
                return performed;
            }
            simulation.performTick();
        }
        return limit;
    }

    public int isQuiet() {
        return simulation.quiet() ? 1 : 0;
    }

    public int checkpoint() {
        if (simulation.running != 0) {
            return BUSY;
        }
        simulation.beginCheckpoint();
        return simulation.running;
    }

    public int fail() {
        simulation.failNow();
        return simulation.latest;
    }

    public int rescale(int operator, int instances) {
        if (operator == 0 || simulation.operatorAt(operator) == null) {
            return NONE;
        }
        if (instances < 1 || instances > MOST_INSTANCES) {
            return BAD_ARGUMENT;
        }
        return simulation.changeInstances(operator, instances);
    }

    public int count(int what) {
        switch (what) {
            case 0: return simulation.stages + 2;
            case 1: return simulation.input.size;
            case 2: return simulation.offset;
            case 3: return simulation.ticks;
            case 4: return simulation.latest;
            case 5: return simulation.running;
            case 6: return simulation.failures;
            case 7: return simulation.recordsInChannels();
            case 8: return simulation.recordsInLists();
            case 9: return simulation.recordsInSink();
            default: return BAD_ARGUMENT;
        }
    }

    public int operator(int operator, int what) {
        Operator found = simulation.operatorAt(operator);
        if (found == null) {
            return NONE;
        }
        switch (what) {
            case 0: return found.kind;
            case 1: return found.size;
            case 2: return found.a;
            case 3: return found.b;
            case 4: return found.processed;
            case 5: return found.emitted;
            case 6: return found.blocked;
            case 7: return found.idle;
            default: return BAD_ARGUMENT;
        }
    }

    public int instance(int operator, int instance, int what) {
        Operator owner = simulation.operatorAt(operator);
        Instance found = simulation.instanceAt(operator, instance);
        if (owner == null || found == null) {
            return NONE;
        }
        switch (what) {
            case 0: return found.list.size;
            case 1: return found.holdsBarrier ? 1 : 0;
            case 2: return found.stopped;
            case 3: return found.pointer;
            case 4: return found.counter;
            case 5: return owner.keysOf(instance);
            default: return BAD_ARGUMENT;
        }
    }

    public int channel(int operator, int from, int to, int what) {
        Channel found = simulation.channelAt(operator, from, to);
        if (found == null) {
            return NONE;
        }
        switch (what) {
            case 0: return found.queued;
            case 1: return found.open;
            case 2: return found.records.size;
            case 3: return found.age;
            case 4: return simulation.settings.credits - found.queued;
            default: return BAD_ARGUMENT;
        }
    }

    public int state(int operator, int key, int second) {
        Operator found = simulation.operatorAt(operator);
        return found == null ? NONE : numberOf(found.states, key, second);
    }

    public int savedState(int operator, int key, int second) {
        Operator found = simulation.operatorAt(operator);
        return found == null ? NONE : numberOf(found.saved, key, second);
    }

    public int latency(int what) {
        if (what < -2 || what > 100) {
            return BAD_ARGUMENT;
        }
        Latencies latencies = simulation.latencies;
        if (latencies.number == 0) {
            return NONE;
        }
        if (what == -2) {
            return latencies.sum;
        }
        return what == -1 ? latencies.number : latencies.leastOf(what);
    }

    public int plain(int key, int second) {
        Operator sink = simulation.operatorAt(simulation.stages + 1);
        if (sink == null) {
            return NONE;
        }
        plainRun.catchUp();
        return numberOf(sink.plainStates, key, second);
    }

    public int explain(int operator, int instance) {
        if (simulation.instanceAt(operator, instance) == null) {
            return NONE;
        }
        return latestExplanation.begin(operator, instance);
    }

    public int explanation(int level, int what) {
        if (level < 0 || level >= latestExplanation.levels || level >= MOST_LEVELS) {
            return NONE;
        }
        switch (what) {
            case 0: return latestExplanation.places[level];
            case 1: return latestExplanation.reasons[level];
            default: return BAD_ARGUMENT;
        }
    }

    public int write() {
        writing.setLength(0);
        for (int number = 1; number <= simulation.stages; number++) {
            if (number > 1) {
                writing.append('|');
            }
            writeStage(simulation.operatorAt(number));
        }
        int sinks = simulation.sizeOf(simulation.stages + 1);
        if (sinks > 1) {
            writing.append('$');
            writing.append(sinks);
        }
        return writing.length();
    }

    public int written(int index) {
        return index < 0 || index >= writing.length() ? NONE : writing.charAt(index);
    }

    public int clear() {
        int removed = simulation.input.size;
        simulation.input.wipe();
        simulation.beginAnew();
        plainRun.forget();
        return removed;
    }

    private static int numberOf(Keyed states, int key, int second) {
        if (key < 0 || key >= KEYS || !states.has(key)) {
            return NONE;
        }
        if (second != 0 && second != 1) {
            return BAD_ARGUMENT;
        }
        return second == 0 ? states.firstOf(key) : states.secondOf(key);
    }

    private void writeStage(Operator stage) {
        if (stage == null || stage.kind < 0 || stage.kind >= LETTERS.length()) {
            return;
        }
        writing.append(LETTERS.charAt(stage.kind));
        int numbers = numbersOf(stage.kind);
        if (numbers > 0) {
            writing.append('(');
            writing.append(stage.a);
            if (numbers > 1) {
                writing.append(',');
                writing.append(stage.b);
            }
            writing.append(')');
        }
        if (stage.size > 1) {
            writing.append(stage.size);
        }
    }

    private static int numbersOf(int kind) {
        switch (kind) {
            case MAP:
            case FILTER:
            case REKEY: return 2;
            case COPIES:
            case SUMS: return 1;
            default: return 0;
        }
    }

    private static final class Settings {
        private int size = 2;
        private int age = 3;
        private int credits = 2;
        private int rate = 2;

        void change(int newSize, int newAge, int newCredits, int newRate) {
            size = newSize;
            age = newAge;
            credits = newCredits;
            rate = newRate;
        }

        int digits() {
            return size * 1000 + age * 100 + credits * 10 + rate;
        }
    }

    /** Records in a row, the first put first. The rows' length is a power of two, so that a mask keeps each index inside. */
    private static final class Records {
        private final int[] keys;
        private final int[] values;
        private final int[] births;
        private final int mask;
        private int head;
        private int size;

        Records(int bits) {
            int length = 1 << (bits & 7);
            keys = new int[length];
            values = new int[length];
            births = new int[length];
            mask = length - 1;
        }

        void add(int key, int value, int birth) {
            if (size > mask) {
                return;
            }
            int index = (head + size) & mask;
            keys[index] = key;
            values[index] = value;
            births[index] = birth;
            size++;
        }

        int keyAt(int place) {
            return keys[(head + place) & mask];
        }

        int valueAt(int place) {
            return values[(head + place) & mask];
        }

        int birthAt(int place) {
            return births[(head + place) & mask];
        }

        void removeFirst() {
            if (size > 0) {
                head = (head + 1) & mask;
                size--;
            }
        }

        void wipe() {
            head = 0;
            size = 0;
        }
    }

    /**
     * The states of an operator's keys. A key has one owner among the instances, so they need not be kept apart.
     * The numbers of a key without a state are 0, so that a first record needs no case of its own.
     */
    private static final class Keyed {
        private static final int MASK = KEYS - 1;
        private final int[] first = new int[KEYS];
        private final int[] second = new int[KEYS];
        private int present;

        boolean has(int key) {
            return (present >> (key & MASK) & 1) != 0;
        }

        int firstOf(int key) {
            return first[key & MASK];
        }

        int secondOf(int key) {
            return second[key & MASK];
        }

        void put(int key, int one, int two) {
            first[key & MASK] = one;
            second[key & MASK] = two;
            present |= 1 << (key & MASK);
        }

        void remove(int key) {
            first[key & MASK] = 0;
            second[key & MASK] = 0;
            present &= ~(1 << (key & MASK));
        }

        void copyKey(Keyed other, int key) {
            int place = key & MASK;
            int bit = 1 << place;
            first[place] = other.first[place];
            second[place] = other.second[place];
            present = (present & ~bit) | (other.present & bit);
        }

        void copyAll(Keyed other) {
            System.arraycopy(other.first, 0, first, 0, KEYS);
            System.arraycopy(other.second, 0, second, 0, KEYS);
            present = other.present;
        }

        void wipe() {
            Arrays.fill(first, 0);
            Arrays.fill(second, 0);
            present = 0;
        }
    }

    /** Keeps the records of the queue and of the open batch in one row; batches tell how many belong to each batch. */
    private static final class Channel {
        private static final int BARRIER = -1;
        private static final int MASK = 3;
        private final Settings settings;
        private final Records records = new Records(5);
        private final int[] batches = new int[MASK + 1];
        private int firstBatch;
        private int queued;
        private int open;
        private int age;

        Channel(Settings settings) {
            this.settings = settings;
        }

        boolean hasRoom() {
            return queued < settings.credits;
        }

        boolean takesRecord() {
            return open < settings.size || hasRoom();
        }

        boolean takesBarrier() {
            int needed = open > 0 ? 2 : 1;
            return queued + needed <= settings.credits;
        }

        void putRecord(int key, int value, int birth) {
            if (open >= settings.size) {
                closeOpen();
            }
            records.add(key, value, birth);
            open++;
            if (open >= settings.size && hasRoom()) {
                closeOpen();
            }
        }

        void putBarrier() {
            if (open > 0) {
                closeOpen();
            }
            enqueue(BARRIER);
        }

        void growOlder() {
            if (open == 0) {
                return;
            }
            age++;
            if (age >= settings.age && hasRoom()) {
                closeOpen();
            }
        }

        boolean hasItem() {
            return queued > 0;
        }

        boolean isEmpty() {
            return queued == 0 && open == 0;
        }

        boolean startsWithBarrier() {
            return queued > 0 && batches[firstBatch & MASK] == BARRIER;
        }

        void removeItem() {
            if (queued <= 0) {
                return;
            }
            int first = firstBatch & MASK;
            if (batches[first] != BARRIER) {
                records.removeFirst();
                batches[first]--;
                if (batches[first] > 0) {
                    return;
                }
            }
            firstBatch = (firstBatch + 1) & MASK;
            queued--;
        }

        void wipe() {
            records.wipe();
            firstBatch = 0;
            queued = 0;
            open = 0;
            age = 0;
        }

        private void closeOpen() {
            enqueue(open);
            open = 0;
            age = 0;
        }

        private void enqueue(int batch) {
            batches[(firstBatch + queued) & MASK] = batch;
            queued++;
        }
    }

    private static final class Instance {
        private final Records list = new Records(2);
        private boolean holdsBarrier;
        private int stopped;
        private int pointer;
        private int counter;
        private int pendingCounter;
        private int savedCounter;

        void resetCounters() {
            counter = 0;
            savedCounter = 0;
        }

        void returnToSaved() {
            list.wipe();
            holdsBarrier = false;
            stopped = 0;
            pointer = 0;
            counter = savedCounter;
        }
    }

    private static final class Operator {
        private final Instance[] instances = new Instance[MOST_INSTANCES];
        private final Keyed states = new Keyed();
        private final Keyed pending = new Keyed();
        private final Keyed saved = new Keyed();
        private final Keyed plainStates = new Keyed();
        private final Records plainList = new Records(2);
        private int kind;
        private int a;
        private int b;
        private int size;
        private int processed;
        private int emitted;
        private int blocked;
        private int idle;

        Operator(int kind) {
            for (int i = 0; i < instances.length; i++) {
                instances[i] = new Instance();
            }
            become(kind, 0, 0, 1);
        }

        void become(int newKind, int newA, int newB, int newSize) {
            kind = newKind;
            a = newA;
            b = newB;
            size = newSize;
        }

        boolean isKeyed() {
            return kind == SUMS || kind == CHANGES || kind == RECORDS || kind == SINK;
        }

        int ownerOf(int key, int instanceCount) {
            return (key & 7) * instanceCount / 8;
        }

        int keysOf(int index) {
            int found = 0;
            for (int key = 0; key < KEYS; key++) {
                if (states.has(key) && ownerOf(key, size) == index) {
                    found++;
                }
            }
            return found;
        }

        int keysMovedBy(int newSize) {
            int moved = 0;
            for (int key = 0; key < KEYS; key++) {
                if (states.has(key) && ownerOf(key, size) != ownerOf(key, newSize)) {
                    moved++;
                }
            }
            return moved;
        }

        void forgetAll() {
            saved.wipe();
            processed = 0;
            emitted = 0;
            blocked = 0;
            idle = 0;
            resetCounters();
        }

        void resetCounters() {
            for (Instance each : instances) {
                if (each != null) {
                    each.resetCounters();
                }
            }
        }

        void returnToSaved() {
            states.copyAll(saved);
            for (Instance each : instances) {
                if (each != null) {
                    each.returnToSaved();
                }
            }
        }

        void savePending(int index) {
            for (int key = 0; key < KEYS; key++) {
                if (ownerOf(key, size) == index) {
                    pending.copyKey(states, key);
                }
            }
        }

        void completePending() {
            saved.copyAll(pending);
            for (int i = 0; i < size && i < instances.length; i++) {
                Instance each = instances[i];
                if (each != null) {
                    each.savedCounter = each.pendingCounter;
                }
            }
        }

        /** The states are an argument, because the plain computation goes the same way with states of its own. */
        void handle(Keyed keyed, int key, int value, int birth, Records out) {
            switch (kind) {
                case MAP:
                    out.add(key, value * a + b, birth);
                    break;
                case FILTER:
                    if (passes(value)) {
                        out.add(key, value, birth);
                    }
                    break;
                case REKEY:
                    out.add(Math.floorMod(key * a + b, KEYS), value, birth);
                    break;
                case COPIES:
                    for (int i = 0; i < a; i++) {
                        out.add(key, value + i, birth);
                    }
                    break;
                case SUMS:
                    addToSum(keyed, key, value, birth, out);
                    break;
                case CHANGES:
                    if (!keyed.has(key) || keyed.firstOf(key) != value) {
                        out.add(key, value, birth);
                    }
                    keyed.put(key, value, 0);
                    break;
                case RECORDS:
                    if (!keyed.has(key) || value > keyed.firstOf(key)) {
                        out.add(key, value, birth);
                        keyed.put(key, value, 0);
                    }
                    break;
                case SINK:
                    keyed.put(key, keyed.firstOf(key) + value, keyed.secondOf(key) + 1);
                    break;
                default:
                    break;
            }
        }

        private boolean passes(int value) {
            if (a == 0) {
                return value < b;
            }
            return a == 1 ? value == b : value > b;
        }

        private void addToSum(Keyed keyed, int key, int value, int birth, Records out) {
            int sum = keyed.firstOf(key) + value;
            int number = keyed.secondOf(key) + 1;
            if (number == a) {
                out.add(key, sum, birth);
                keyed.remove(key);
            } else {
                keyed.put(key, sum, number);
            }
        }
    }

    private static final class Latencies {
        private static final int GREATEST = (1 << 17) - 1;
        private int[] numbers = new int[64];
        private int number;
        private int sum;

        void note(int latency) {
            int slot = Math.max(0, Math.min(latency, GREATEST));
            if (slot >= numbers.length) {
                numbers = Arrays.copyOf(numbers, Math.max(slot + 1, 2 * numbers.length));
            }
            numbers[slot]++;
            number++;
            sum += latency;
        }

        int leastOf(int hundredths) {
            long seen = 0;
            for (int latency = 0; latency < numbers.length; latency++) {
                seen += numbers[latency];
                if (seen > 0 && seen * 100 >= (long) hundredths * number) {
                    return latency;
                }
            }
            return GREATEST;
        }

        void wipe() {
            Arrays.fill(numbers, 0);
            number = 0;
            sum = 0;
        }
    }

    /** Reads a pipeline from the text; where it stops at an error, the position is the error offset. */
    private static final class Reader {
        private final StringBuilder text;
        private final int[] kinds = new int[MOST_STAGES];
        private final int[] firsts = new int[MOST_STAGES];
        private final int[] seconds = new int[MOST_STAGES];
        private final int[] sizes = new int[MOST_STAGES];
        private int stages;
        private int sinks;
        private int position;
        private int number;

        Reader(StringBuilder text) {
            this.text = text;
        }

        boolean readAll() {
            position = 0;
            stages = 0;
            sinks = 1;
            if (sign() != '$' && sign() >= 0 && !readStages()) {
                return false;
            }
            if (sign() == '$') {
                position++;
                if (!atInstances()) {
                    return false;
                }
                sinks = readInstances();
            }
            return sign() < 0;
        }

        private int sign() {
            return position < 0 || position >= text.length() ? -1 : text.charAt(position);
        }

        private boolean readStages() {
            for (int stage = 0; stage < MOST_STAGES; stage++) {
                if (stage > 0) {
                    if (sign() != '|') {
                        return true;
                    }
                    position++;
                }
                if (!readStage(stage)) {
                    return false;
                }
                stages = stage + 1;
            }
            return true;
        }

        private boolean readStage(int stage) {
            int letter = sign();
            int kind = letter < 0 ? -1 : LETTERS.indexOf((char) letter);
            if (kind < 0 || stage < 0 || stage >= MOST_STAGES) {
                return false;
            }
            position++;
            kinds[stage] = kind;
            firsts[stage] = 0;
            seconds[stage] = 0;
            int wanted = numbersOf(kind);
            if (wanted > 0) {
                if (!skip('(') || !readNumber() || !inRange(kind)) {
                    return false;
                }
                firsts[stage] = number;
                if (wanted > 1) {
                    if (!skip(',') || !readNumber()) {
                        return false;
                    }
                    seconds[stage] = number;
                }
                if (!skip(')')) {
                    return false;
                }
            }
            sizes[stage] = readInstances();
            return true;
        }

        private boolean skip(char wanted) {
            if (sign() != wanted) {
                return false;
            }
            position++;
            return true;
        }

        private boolean readNumber() {
            boolean negative = skip('-');
            if (!atDigit()) {
                return false;
            }
            number = sign() - '0';
            position++;
            if (atDigit()) {
                number = number * 10 + sign() - '0';
                position++;
            }
            if (negative) {
                number = -number;
            }
            return true;
        }

        private boolean inRange(int kind) {
            switch (kind) {
                case FILTER: return number >= 0 && number <= 2;
                case COPIES: return number >= 0 && number <= 3;
                case SUMS: return number >= 1 && number <= 5;
                default: return true;
            }
        }

        private boolean atDigit() {
            return sign() >= '0' && sign() <= '9';
        }

        private boolean atInstances() {
            return sign() >= '1' && sign() <= '3';
        }

        private int readInstances() {
            if (!atInstances()) {
                return 1;
            }
            int digit = sign() - '0';
            position++;
            return digit;
        }
    }

    /** The pipeline with its input, and all that ticks, checkpoints and failures change. */
    private static final class Simulation {
        private final Settings settings = new Settings();
        private final Records input = new Records(6);
        private final Operator[] operators = new Operator[MOST_OPERATORS];
        private final Channel[] channels = new Channel[MOST_CHANNELS];
        private final Latencies latencies = new Latencies();
        private int stages;
        private int offset;
        private int pendingOffset;
        private int savedOffset;
        private int ticks;
        private int failures;
        private int latest;
        private int running;
        private int sinksToSave;
        private boolean begun;

        Simulation() {
            for (int i = 0; i < operators.length; i++) {
                operators[i] = new Operator(i == 0 ? SOURCE : SINK);
            }
            for (int i = 0; i < channels.length; i++) {
                channels[i] = new Channel(settings);
            }
        }

        Operator operatorAt(int number) {
            return number < 0 || number > stages + 1 || number >= operators.length ? null : operators[number];
        }

        int sizeOf(int number) {
            Operator found = operatorAt(number);
            return found == null ? 0 : found.size;
        }

        Instance instanceAt(int number, int index) {
            Operator found = operatorAt(number);
            if (found == null || index < 0 || index >= found.size || index >= found.instances.length) {
                return null;
            }
            return found.instances[index];
        }

        Channel channelAt(int number, int from, int to) {
            Operator sender = operatorAt(number);
            Operator receiver = operatorAt(number + 1);
            if (sender == null || receiver == null) {
                return null;
            }
            if (from < 0 || from >= sender.size || to < 0 || to >= receiver.size) {
                return null;
            }
            int place = (number * MOST_INSTANCES + from) * MOST_INSTANCES + to;
            return place < 0 || place >= channels.length ? null : channels[place];
        }

        void replacePipeline(Reader reader) {
            stages = reader.stages;
            for (int i = 0; i < stages && i < MOST_STAGES; i++) {
                Operator stage = operatorAt(i + 1);
                if (stage != null) {
                    stage.become(reader.kinds[i], reader.firsts[i], reader.seconds[i], reader.sizes[i]);
                }
            }
            Operator sink = operatorAt(stages + 1);
            if (sink != null) {
                sink.become(SINK, 0, 0, reader.sinks);
            }
            beginAnew();
        }

        void beginAnew() {
            for (Operator each : operators) {
                if (each != null) {
                    each.forgetAll();
                }
            }
            latencies.wipe();
            savedOffset = 0;
            latest = 0;
            ticks = 0;
            begun = false;
            returnToSaved();
            failures = 0;
        }

        void failNow() {
            returnToSaved();
            failures++;
        }

        int changeInstances(int number, int size) {
            failNow();
            Operator changed = operatorAt(number);
            if (changed == null) {
                return 0;
            }
            int moved = changed.keysMovedBy(size);
            changed.size = size;
            changed.resetCounters();
            return moved;
        }

        void beginCheckpoint() {
            begun = true;
            running = latest + 1;
            sinksToSave = sizeOf(stages + 1);
            pendingOffset = offset;
            Instance source = instanceAt(0, 0);
            if (source != null) {
                source.pendingCounter = source.counter;
                source.holdsBarrier = true;
            }
        }

        boolean quiet() {
            if (offset != input.size || running != 0) {
                return false;
            }
            for (Channel each : channels) {
                if (each != null && !each.isEmpty()) {
                    return false;
                }
            }
            return recordsInLists() == 0;
        }

        int recordsInChannels() {
            int found = 0;
            for (Channel each : channels) {
                if (each != null) {
                    found += each.records.size;
                }
            }
            return found;
        }

        int recordsInLists() {
            int found = 0;
            for (int number = 0; number <= stages + 1; number++) {
                for (int i = 0; i < sizeOf(number); i++) {
                    Instance each = instanceAt(number, i);
                    found += each == null ? 0 : each.list.size;
                }
            }
            return found;
        }

        int recordsInSink() {
            Operator sink = operatorAt(stages + 1);
            int found = 0;
            for (int key = 0; key < KEYS && sink != null; key++) {
                found += sink.states.secondOf(key);
            }
            return found;
        }

        void performTick() {
            begun = true;
            for (Channel each : channels) {
                if (each != null) {
                    each.growOlder();
                }
            }
            for (int number = stages + 1; number >= 0; number--) {
                for (int i = 0; i < sizeOf(number); i++) {
                    work(number, i);
                }
            }
            if (running != 0 && sinksToSave == 0) {
                completeCheckpoint();
            }
            ticks++;
        }

        /** Where the first record of the list goes, -1 if the list is empty. */
        int targetOf(int number, Instance sender) {
            Operator next = operatorAt(number + 1);
            if (next == null || next.size <= 0 || sender.list.size == 0) {
                return -1;
            }
            if (next.isKeyed()) {
                return next.ownerOf(sender.list.keyAt(0), next.size);
            }
            return Math.floorMod(sender.counter, next.size);
        }

        /** The lowest instance of the next operator whose channel cannot take a barrier, -1 if there is none. */
        int targetWithoutRoom(int number, int index) {
            for (int to = 0; to < sizeOf(number + 1); to++) {
                Channel output = channelAt(number, index, to);
                if (output != null && !output.takesBarrier()) {
                    return to;
                }
            }
            return -1;
        }

        /** The input channel from which the next item is taken, -1 if there is none. */
        int inputToTake(int number, int index) {
            Instance taker = instanceAt(number, index);
            int inputs = sizeOf(number - 1);
            if (taker == null || inputs <= 0) {
                return -1;
            }
            for (int i = 0; i < inputs; i++) {
                int from = Math.floorMod(taker.pointer + i, inputs);
                Channel channel = channelAt(number - 1, from, index);
                boolean stops = (taker.stopped >> from & 1) != 0;
                if (channel != null && !stops && channel.hasItem()) {
                    return from;
                }
            }
            return -1;
        }

        private void returnToSaved() {
            running = 0;
            offset = savedOffset;
            for (Channel each : channels) {
                if (each != null) {
                    each.wipe();
                }
            }
            for (Operator each : operators) {
                if (each != null) {
                    each.returnToSaved();
                }
            }
        }

        private void work(int number, int index) {
            Operator owner = operatorAt(number);
            Instance worker = instanceAt(number, index);
            if (owner == null || worker == null) {
                return;
            }
            for (int budget = settings.rate; budget >= 0; budget--) {
                if (!sendList(number, index, worker) || !sendBarrier(number, index, worker)) {
                    owner.blocked++;
                    return;
                }
                if (budget == 0) {
                    return;
                }
                boolean took = number == 0 ? takeInput(owner, worker) : takeItem(number, index, owner, worker);
                if (!took) {
                    owner.idle++;
                    return;
                }
            }
        }

        private boolean sendList(int number, int index, Instance sender) {
            Records list = sender.list;
            int waiting = list.size;
            for (int i = 0; i < waiting; i++) {
                Operator next = operatorAt(number + 1);
                Channel output = channelAt(number, index, targetOf(number, sender));
                if (next == null || output == null || !output.takesRecord()) {
                    return false;
                }
                output.putRecord(list.keyAt(0), list.valueAt(0), list.birthAt(0));
                list.removeFirst();
                if (!next.isKeyed()) {
                    sender.counter++;
                }
            }
            return true;
        }

        private boolean sendBarrier(int number, int index, Instance sender) {
            if (!sender.holdsBarrier) {
                return true;
            }
            if (targetWithoutRoom(number, index) >= 0) {
                return false;
            }
            for (int to = 0; to < sizeOf(number + 1); to++) {
                Channel output = channelAt(number, index, to);
                if (output != null) {
                    output.putBarrier();
                }
            }
            sender.holdsBarrier = false;
            return true;
        }

        private boolean takeInput(Operator source, Instance taker) {
            if (offset >= input.size) {
                return false;
            }
            taker.list.add(input.keyAt(offset), input.valueAt(offset), ticks);
            offset++;
            source.processed++;
            source.emitted++;
            return true;
        }

        private boolean takeItem(int number, int index, Operator owner, Instance taker) {
            int inputs = sizeOf(number - 1);
            int from = inputToTake(number, index);
            Channel channel = channelAt(number - 1, from, index);
            if (channel == null || inputs <= 0) {
                return false;
            }
            taker.pointer = (from + 1) % inputs;
            if (channel.startsWithBarrier()) {
                channel.removeItem();
                taker.stopped |= 1 << from;
                if (taker.stopped == (1 << inputs) - 1) {
                    saveInstance(index, owner, taker);
                }
                return true;
            }
            int key = channel.records.keyAt(0);
            int value = channel.records.valueAt(0);
            int birth = channel.records.birthAt(0);
            channel.removeItem();
            owner.processed++;
            if (owner.kind == SINK) {
                latencies.note(ticks - birth);
            }
            owner.handle(owner.states, key, value, birth, taker.list);
            owner.emitted += taker.list.size;
            return true;
        }

        private void saveInstance(int index, Operator owner, Instance taker) {
            taker.stopped = 0;
            taker.pendingCounter = taker.counter;
            owner.savePending(index);
            if (owner.kind == SINK) {
                sinksToSave--;
            } else {
                taker.holdsBarrier = true;
            }
        }

        /** Nothing between the last sink's saving and the end of the tick looks at what is completed here. */
        private void completeCheckpoint() {
            latest = running;
            running = 0;
            savedOffset = pendingOffset;
            for (int number = 0; number <= stages + 1; number++) {
                Operator each = operatorAt(number);
                if (each != null) {
                    each.completePending();
                }
            }
        }
    }

    /** The plain results. They are kept from call to call, because the input before the offset only changes with a new beginning. */
    private static final class Plain {
        private final Simulation simulation;
        private int done;

        Plain(Simulation simulation) {
            this.simulation = simulation;
        }

        void forget() {
            done = 0;
            for (int number = 0; number <= simulation.stages + 1; number++) {
                Operator each = simulation.operatorAt(number);
                if (each != null) {
                    each.plainStates.wipe();
                }
            }
        }

        void catchUp() {
            if (done > simulation.offset) {
                forget();
            }
            Records input = simulation.input;
            for (int i = done; i < simulation.offset; i++) {
                follow(simulation, 1, input.keyAt(i), input.valueAt(i));
            }
            done = simulation.offset;
        }

        private static void follow(Simulation simulation, int number, int key, int value) {
            Operator each = simulation.operatorAt(number);
            if (number >= MOST_OPERATORS || each == null) {
                return;
            }
            Records out = each.plainList;
            out.wipe();
            each.handle(each.plainStates, key, value, 0, out);
            int emitted = out.size;
            for (int i = 0; i < emitted; i++) {
                follow(simulation, number + 1, out.keyAt(i), out.valueAt(i));
            }
        }
    }

    private static final class Explanation {
        private final Simulation simulation;
        private final int[] places = new int[MOST_LEVELS];
        private final int[] reasons = new int[MOST_LEVELS];
        private int levels;

        Explanation(Simulation simulation) {
            this.simulation = simulation;
        }

        int begin(int operator, int instance) {
            int number = operator;
            int index = instance;
            for (int level = 0; level < MOST_LEVELS; level++) {
                int reason = reasonOf(number, index);
                places[level] = 10 * number + index;
                reasons[level] = reason;
                levels = level + 1;
                if (reason == NOTHING_TO_TAKE || reason == NOT_WAITING) {
                    break;
                }
                index = awaited(number, index, reason);
                number = reason == ALIGNING ? number - 1 : number + 1;
            }
            return levels;
        }

        private int reasonOf(int number, int index) {
            Instance each = simulation.instanceAt(number, index);
            if (each == null) {
                return NOT_WAITING;
            }
            Channel output = simulation.channelAt(number, index, simulation.targetOf(number, each));
            if (output != null && !output.takesRecord()) {
                return CANNOT_PUT_RECORD;
            }
            if (each.holdsBarrier && simulation.targetWithoutRoom(number, index) >= 0) {
                return CANNOT_PUT_BARRIER;
            }
            if (number == 0) {
                return simulation.offset < simulation.input.size ? NOT_WAITING : NOTHING_TO_TAKE;
            }
            if (simulation.inputToTake(number, index) >= 0) {
                return NOT_WAITING;
            }
            return each.stopped != 0 ? ALIGNING : NOTHING_TO_TAKE;
        }

        private int awaited(int number, int index, int reason) {
            Instance each = simulation.instanceAt(number, index);
            if (each == null) {
                return -1;
            }
            switch (reason) {
                case CANNOT_PUT_RECORD: return simulation.targetOf(number, each);
                case CANNOT_PUT_BARRIER: return simulation.targetWithoutRoom(number, index);
                default: return lowestRunning(each.stopped);
            }
        }

        private static int lowestRunning(int stopped) {
            for (int from = 0; from < MOST_INSTANCES; from++) {
                if ((stopped >> from & 1) == 0) {
                    return from;
                }
            }
            return -1;
        }
    }
}
