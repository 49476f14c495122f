import java.util.ArrayDeque;
import java.util.ArrayList;
import java.util.Deque;
import java.util.List;
import java.util.Map;
import java.util.TreeMap;
import java.util.TreeSet;
import java.util.regex.Matcher;
import java.util.regex.Pattern;

/** The document once more, in another shape: states kept at each instance, batches as lists, the grammar as one pattern. */
final class Model {
    static final int NONE = -1000000001;
    static final int BAD_ARGUMENT = -1000000002;
    static final int FULL = -1000000003;
    static final int BEGUN = -1000000004;
    static final int BUSY = -1000000005;

    private static final String NUMBER = "-?+[0-9][0-9]?+";
    private static final String STAGE = "(?:[mk]\\(" + NUMBER + "," + NUMBER + "\\)"
        + "|f\\(" + NUMBER + ",(?<=\\((?:-?0{1,2}|0?[12]),)" + NUMBER + "\\)"
        + "|c\\(" + NUMBER + "\\)(?<=\\((?:-?0{1,2}|0?[1-3])\\))"
        + "|s\\(" + NUMBER + "\\)(?<=\\(0?[1-5]\\))"
        + "|[dr])[1-3]?+";
    static final Pattern PIPELINE =
        Pattern.compile("(?:" + STAGE + "(?:\\|" + STAGE + "){0,3}+)?+(?:\\$[1-3])?+");

    record Rec(int key, int value, int birth) { }

    static final class Batch {
        final boolean barrier;
        final List<Rec> records = new ArrayList<>();

        Batch(boolean barrier) {
            this.barrier = barrier;
        }
    }

    final class Chan {
        final Deque<Batch> queue = new ArrayDeque<>();
        Batch open = new Batch(false);
        int age;

        boolean room(int batches) {
            return queue.size() + batches <= credits;
        }

        void close() {
            queue.addLast(open);
            open = new Batch(false);
            age = 0;
        }

        boolean canPut() {
            return open.records.size() < batchSize || room(1);
        }

        boolean canPutBarrier() {
            return room(open.records.isEmpty() ? 1 : 2);
        }

        void put(Rec r) {
            if (open.records.size() == batchSize) {
                close();
            }
            open.records.add(r);
            if (open.records.size() == batchSize && room(1)) {
                close();
            }
        }

        void putBarrier() {
            if (!open.records.isEmpty()) {
                close();
            }
            queue.addLast(new Batch(true));
        }

        int records() {
            int n = open.records.size();
            for (Batch b : queue) {
                n += b.records.size();
            }
            return n;
        }
    }

    static final class Saved {
        final Map<Integer, int[]> states = new TreeMap<>();
        int counter;
        int offset;
    }

    static final class Inst {
        final Deque<Rec> list = new ArrayDeque<>();
        final TreeSet<Integer> stopped = new TreeSet<>();
        final List<Chan> outputs = new ArrayList<>();
        Map<Integer, int[]> states = new TreeMap<>();
        boolean barrier;
        int pointer;
        int counter;
        Saved saved = new Saved();
        Saved pending;
    }

    static final class Op {
        int kind;
        int a;
        int b;
        List<Inst> instances = new ArrayList<>();
        int processed;
        int emitted;
        int blocked;
        int idle;

        boolean keyed() {
            return kind >= 4 && kind != 7;
        }

        int owner(int key) {
            return (int) Math.floor((key % 8) * instances.size() / 8.0);
        }
    }

    String text = "";
    String written = "";
    int batchSize = 2;
    int greatestAge = 3;
    int credits = 2;
    int rate = 2;
    final List<int[]> input = new ArrayList<>();
    List<Op> ops = new ArrayList<>();
    int offset;
    int ticks;
    int failures;
    int latest;
    int running;
    boolean begun;
    final List<Integer> latencies = new ArrayList<>();
    List<int[]> levels = new ArrayList<>();

    Model() {
        ops.add(newOp(7, 0, 0, 1));
        ops.add(newOp(8, 0, 0, 1));
        begin();
    }

    private static Op newOp(int kind, int a, int b, int size) {
        Op op = new Op();
        op.kind = kind;
        op.a = a;
        op.b = b;
        for (int i = 0; i < size; i++) {
            op.instances.add(new Inst());
        }
        return op;
    }

    private void begin() {
        List<Op> fresh = new ArrayList<>();
        for (Op op : ops) {
            fresh.add(newOp(op.kind, op.a, op.b, op.instances.size()));
        }
        ops = fresh;
        offset = 0;
        ticks = 0;
        failures = 0;
        latest = 0;
        running = 0;
        begun = false;
        latencies.clear();
        connect();
    }

    private void connect() {
        for (int o = 0; o + 1 < ops.size(); o++) {
            for (Inst from : ops.get(o).instances) {
                from.outputs.clear();
                for (int to = 0; to < ops.get(o + 1).instances.size(); to++) {
                    from.outputs.add(new Chan());
                }
            }
        }
    }

    int append(int code, int count) {
        if (code < 0 || code > 127 || count < 1 || count > 60) {
            return BAD_ARGUMENT;
        }
        if (text.length() + count > 60) {
            return FULL;
        }
        text += Character.toString(code).repeat(count);
        return text.length();
    }

    static int errorOffset(String text) {
        for (int length = 1; length <= text.length(); length++) {
            Matcher m = PIPELINE.matcher(text.substring(0, length));
            if (!m.matches() && !m.hitEnd()) {
                return length - 1;
            }
        }
        return PIPELINE.matcher(text).matches() ? -1 : text.length();
    }

    int readPipeline() {
        String read = text;
        text = "";
        int error = errorOffset(read);
        if (error >= 0) {
            return -2000 - error;
        }
        int dollar = read.indexOf('$');
        String stages = dollar < 0 ? read : read.substring(0, dollar);
        int sinks = dollar < 0 ? 1 : read.charAt(dollar + 1) - '0';
        ops = new ArrayList<>();
        ops.add(newOp(7, 0, 0, 1));
        if (!stages.isEmpty()) {
            for (String stage : stages.split("\\|")) {
                int kind = "mfkcsdr".indexOf(stage.charAt(0));
                int close = stage.indexOf(')');
                String[] numbers = close < 0 ? new String[0] : stage.substring(2, close).split(",");
                String rest = stage.substring(close < 0 ? 1 : close + 1);
                int a = numbers.length > 0 ? Integer.parseInt(numbers[0]) : 0;
                int b = numbers.length > 1 ? Integer.parseInt(numbers[1]) : 0;
                ops.add(newOp(kind, a, b, rest.isEmpty() ? 1 : Integer.parseInt(rest)));
            }
        }
        ops.add(newOp(8, 0, 0, sinks));
        begin();
        return ops.size() - 2;
    }

    int configure(int size, int age, int newCredits, int newRate) {
        if (size < 1 || size > 4 || age < 1 || age > 9 || newCredits < 2 || newCredits > 4 || newRate < 1 || newRate > 5) {
            return BAD_ARGUMENT;
        }
        if (begun) {
            return BEGUN;
        }
        int before = Integer.parseInt("" + batchSize + greatestAge + credits + rate);
        batchSize = size;
        greatestAge = age;
        credits = newCredits;
        rate = newRate;
        return before;
    }

    int push(int key, int value) {
        if (key < 0 || key > 15 || value < -99 || value > 99) {
            return BAD_ARGUMENT;
        }
        if (input.size() == 60) {
            return FULL;
        }
        input.add(new int[] {key, value});
        return input.size();
    }

    int tick(int limit) {
        if (limit < 1 || limit > 200) {
            return BAD_ARGUMENT;
        }
        int done = 0;
        while (done < limit && isQuiet() == 0) {
            oneTick();
            done++;
        }
        return done;
    }

    private List<Chan> chans() {
        List<Chan> all = new ArrayList<>();
        for (Op op : ops) {
            for (Inst i : op.instances) {
                all.addAll(i.outputs);
            }
        }
        return all;
    }

    int isQuiet() {
        if (offset != input.size() || running != 0) {
            return 0;
        }
        for (Chan c : chans()) {
            if (!c.queue.isEmpty() || !c.open.records.isEmpty()) {
                return 0;
            }
        }
        return count(8) == 0 ? 1 : 0;
    }

    private void oneTick() {
        begun = true;
        for (Chan c : chans()) {
            if (!c.open.records.isEmpty()) {
                c.age++;
                if (c.age >= greatestAge && c.room(1)) {
                    c.close();
                }
            }
        }
        for (int o = ops.size() - 1; o >= 0; o--) {
            for (int i = 0; i < ops.get(o).instances.size(); i++) {
                work(o, i);
            }
        }
        ticks++;
    }

    private int target(int o, int i) {
        Inst inst = ops.get(o).instances.get(i);
        Op next = ops.get(o + 1);
        return next.keyed() ? next.owner(inst.list.getFirst().key()) : inst.counter % next.instances.size();
    }

    private void work(int o, int i) {
        Op op = ops.get(o);
        Inst inst = op.instances.get(i);
        int budget = rate;
        while (true) {
            while (!inst.list.isEmpty()) {
                Chan c = inst.outputs.get(target(o, i));
                if (!c.canPut()) {
                    op.blocked++;
                    return;
                }
                c.put(inst.list.removeFirst());
                if (!ops.get(o + 1).keyed()) {
                    inst.counter++;
                }
            }
            if (inst.barrier) {
                if (!inst.outputs.stream().allMatch(Chan::canPutBarrier)) {
                    op.blocked++;
                    return;
                }
                inst.outputs.forEach(Chan::putBarrier);
                inst.barrier = false;
            }
            if (budget == 0) {
                return;
            }
            if (!takeOne(o, i)) {
                op.idle++;
                return;
            }
            budget--;
        }
    }

    private Chan in(int o, int from, int i) {
        return ops.get(o - 1).instances.get(from).outputs.get(i);
    }

    private int inputChosen(int o, int i) {
        Inst inst = ops.get(o).instances.get(i);
        int n = ops.get(o - 1).instances.size();
        List<Integer> order = new ArrayList<>();
        for (int c = inst.pointer; c < n; c++) {
            order.add(c);
        }
        for (int c = 0; c < inst.pointer; c++) {
            order.add(c);
        }
        for (int c : order) {
            if (!inst.stopped.contains(c) && !in(o, c, i).queue.isEmpty()) {
                return c;
            }
        }
        return -1;
    }

    private boolean takeOne(int o, int i) {
        Op op = ops.get(o);
        Inst inst = op.instances.get(i);
        if (o == 0) {
            if (offset == input.size()) {
                return false;
            }
            int[] r = input.get(offset++);
            inst.list.add(new Rec(r[0], r[1], ticks));
            op.processed++;
            op.emitted++;
            return true;
        }
        int from = inputChosen(o, i);
        if (from < 0) {
            return false;
        }
        int inputs = ops.get(o - 1).instances.size();
        inst.pointer = (from + 1) % inputs;
        Deque<Batch> queue = in(o, from, i).queue;
        Batch first = queue.getFirst();
        if (first.barrier) {
            queue.removeFirst();
            inst.stopped.add(from);
            if (inst.stopped.size() == inputs) {
                inst.stopped.clear();
                save(inst);
                if (o == ops.size() - 1) {
                    maybeComplete();
                } else {
                    inst.barrier = true;
                }
            }
            return true;
        }
        Rec r = first.records.remove(0);
        if (first.records.isEmpty()) {
            queue.removeFirst();
        }
        op.processed++;
        List<Rec> out = emit(op, inst.states, r);
        op.emitted += out.size();
        inst.list.addAll(out);
        if (op.kind == 8) {
            latencies.add(ticks - r.birth());
        }
        return true;
    }

    private static Map<Integer, int[]> copy(Map<Integer, int[]> states) {
        Map<Integer, int[]> result = new TreeMap<>();
        states.forEach((k, v) -> result.put(k, v.clone()));
        return result;
    }

    private void save(Inst inst) {
        inst.pending = new Saved();
        inst.pending.states.putAll(copy(inst.states));
        inst.pending.counter = inst.counter;
        inst.pending.offset = offset;
    }

    private void maybeComplete() {
        for (Inst sink : ops.get(ops.size() - 1).instances) {
            if (sink.pending == null) {
                return;
            }
        }
        for (Op op : ops) {
            for (Inst inst : op.instances) {
                inst.saved = inst.pending;
                inst.pending = null;
            }
        }
        latest = running;
        running = 0;
    }

    private static List<Rec> emit(Op op, Map<Integer, int[]> states, Rec r) {
        List<Rec> out = new ArrayList<>();
        int[] s = states.get(r.key());
        switch (op.kind) {
            case 0 -> out.add(new Rec(r.key(), r.value() * op.a + op.b, r.birth()));
            case 1 -> {
                int order = Integer.compare(r.value(), op.b) + 1;
                if (order == op.a) {
                    out.add(r);
                }
            }
            case 2 -> out.add(new Rec((((r.key() * op.a + op.b) % 16) + 16) % 16, r.value(), r.birth()));
            case 3 -> {
                for (int i = 0; i < op.a; i++) {
                    out.add(new Rec(r.key(), r.value() + i, r.birth()));
                }
            }
            case 4 -> {
                int[] n = s == null ? new int[2] : s;
                n[0] += r.value();
                n[1]++;
                states.put(r.key(), n);
                if (n[1] == op.a) {
                    out.add(new Rec(r.key(), n[0], r.birth()));
                    states.remove(r.key());
                }
            }
            case 5 -> {
                if (s == null || s[0] != r.value()) {
                    out.add(r);
                }
                states.put(r.key(), new int[] {r.value(), 0});
            }
            case 6 -> {
                if (s == null || s[0] < r.value()) {
                    out.add(r);
                    states.put(r.key(), new int[] {r.value(), 0});
                }
            }
            default -> {
                int[] n = s == null ? new int[2] : s;
                n[0] += r.value();
                n[1]++;
                states.put(r.key(), n);
            }
        }
        return out;
    }

    int checkpoint() {
        if (running != 0) {
            return BUSY;
        }
        begun = true;
        running = latest + 1;
        Inst source = ops.get(0).instances.get(0);
        save(source);
        source.barrier = true;
        return running;
    }

    int fail() {
        running = 0;
        failures++;
        for (Op op : ops) {
            for (Inst inst : op.instances) {
                inst.list.clear();
                inst.stopped.clear();
                inst.barrier = false;
                inst.pointer = 0;
                inst.pending = null;
                inst.states = copy(inst.saved.states);
                inst.counter = inst.saved.counter;
            }
        }
        connect();
        offset = ops.get(0).instances.get(0).saved.offset;
        return latest;
    }

    int rescale(int operator, int instances) {
        if (operator < 1 || operator >= ops.size()) {
            return NONE;
        }
        if (instances < 1 || instances > 3) {
            return BAD_ARGUMENT;
        }
        fail();
        Op op = ops.get(operator);
        List<Inst> old = op.instances;
        op.instances = new ArrayList<>();
        for (int i = 0; i < instances; i++) {
            op.instances.add(new Inst());
        }
        int moved = 0;
        for (int i = 0; i < old.size(); i++) {
            for (Map.Entry<Integer, int[]> e : old.get(i).states.entrySet()) {
                int now = op.owner(e.getKey());
                op.instances.get(now).states.put(e.getKey(), e.getValue());
                moved += now == i ? 0 : 1;
            }
            for (Map.Entry<Integer, int[]> e : old.get(i).saved.states.entrySet()) {
                op.instances.get(op.owner(e.getKey())).saved.states.put(e.getKey(), e.getValue());
            }
        }
        connect();
        return moved;
    }

    int count(int what) {
        switch (what) {
            case 0: return ops.size();
            case 1: return input.size();
            case 2: return offset;
            case 3: return ticks;
            case 4: return latest;
            case 5: return running;
            case 6: return failures;
            case 7: return chans().stream().mapToInt(Chan::records).sum();
            case 8: return ops.stream().flatMap(o -> o.instances.stream()).mapToInt(i -> i.list.size()).sum();
            case 9: return ops.get(ops.size() - 1).instances.stream()
                .flatMap(i -> i.states.values().stream()).mapToInt(s -> s[1]).sum();
            default: return BAD_ARGUMENT;
        }
    }

    int operator(int operator, int what) {
        if (operator < 0 || operator >= ops.size()) {
            return NONE;
        }
        if (what < 0 || what > 7) {
            return BAD_ARGUMENT;
        }
        Op op = ops.get(operator);
        return new int[] {op.kind, op.instances.size(), op.a, op.b, op.processed, op.emitted, op.blocked, op.idle}[what];
    }

    private Inst inst(int operator, int instance) {
        if (operator < 0 || operator >= ops.size() || instance < 0 || instance >= ops.get(operator).instances.size()) {
            return null;
        }
        return ops.get(operator).instances.get(instance);
    }

    int instance(int operator, int instance, int what) {
        Inst i = inst(operator, instance);
        if (i == null) {
            return NONE;
        }
        if (what < 0 || what > 5) {
            return BAD_ARGUMENT;
        }
        int bits = i.stopped.stream().mapToInt(c -> 1 << c).sum();
        return new int[] {i.list.size(), i.barrier ? 1 : 0, bits, i.pointer, i.counter, i.states.size()}[what];
    }

    int channel(int operator, int from, int to, int what) {
        Inst i = inst(operator, from);
        if (i == null || to < 0 || to >= i.outputs.size()) {
            return NONE;
        }
        if (what < 0 || what > 4) {
            return BAD_ARGUMENT;
        }
        Chan c = i.outputs.get(to);
        int open = c.open.records.size();
        return new int[] {c.queue.size(), open, c.records(), open == 0 ? 0 : c.age, credits - c.queue.size()}[what];
    }

    int state(int operator, int key, int second) {
        return stateOf(operator, key, second, false);
    }

    int savedState(int operator, int key, int second) {
        return stateOf(operator, key, second, true);
    }

    private int stateOf(int operator, int key, int second, boolean saved) {
        if (operator < 0 || operator >= ops.size() || key < 0 || key > 15 || !ops.get(operator).keyed()) {
            return NONE;
        }
        Op op = ops.get(operator);
        Inst i = op.instances.get(op.owner(key));
        int[] s = (saved ? i.saved.states : i.states).get(key);
        if (s == null) {
            return NONE;
        }
        return second == 0 || second == 1 ? s[second] : BAD_ARGUMENT;
    }

    int latency(int what) {
        if (what < -2 || what > 100) {
            return BAD_ARGUMENT;
        }
        if (latencies.isEmpty()) {
            return NONE;
        }
        if (what == -2) {
            return latencies.stream().mapToInt(l -> l).sum();
        }
        if (what == -1) {
            return latencies.size();
        }
        List<Integer> sorted = new ArrayList<>(latencies);
        sorted.sort(null);
        int needed = Math.max(1, (int) Math.ceil(what * sorted.size() / 100.0 - 1e-9));
        return sorted.get(needed - 1);
    }

    int plain(int key, int second) {
        List<Op> alone = new ArrayList<>();
        for (Op op : ops) {
            alone.add(newOp(op.kind, op.a, op.b, 1));
        }
        for (int i = 0; i < offset; i++) {
            inDepth(alone, 1, new Rec(input.get(i)[0], input.get(i)[1], 0));
        }
        int[] s = alone.get(alone.size() - 1).instances.get(0).states.get(key);
        if (s == null) {
            return NONE;
        }
        return second == 0 || second == 1 ? s[second] : BAD_ARGUMENT;
    }

    private static void inDepth(List<Op> alone, int o, Rec r) {
        Op op = alone.get(o);
        for (Rec next : emit(op, op.instances.get(0).states, r)) {
            inDepth(alone, o + 1, next);
        }
    }

    int explain(int operator, int instance) {
        if (inst(operator, instance) == null) {
            return NONE;
        }
        levels = new ArrayList<>();
        tell(operator, instance);
        return levels.size();
    }

    private void tell(int o, int i) {
        Inst inst = inst(o, i);
        int place = 10 * o + i;
        int reason;
        int nextO = -1;
        int nextI = -1;
        boolean canTake = o == 0 ? offset < input.size() : inputChosen(o, i) >= 0;
        if (!inst.list.isEmpty() && !inst.outputs.get(target(o, i)).canPut()) {
            reason = 1;
            nextO = o + 1;
            nextI = target(o, i);
        } else if (inst.barrier && !inst.outputs.stream().allMatch(Chan::canPutBarrier)) {
            reason = 2;
            nextO = o + 1;
            nextI = 0;
            while (inst.outputs.get(nextI).canPutBarrier()) {
                nextI++;
            }
        } else if (!inst.stopped.isEmpty() && !canTake) {
            reason = 3;
            nextO = o - 1;
            nextI = 0;
            while (inst.stopped.contains(nextI)) {
                nextI++;
            }
        } else {
            reason = canTake ? 5 : 4;
        }
        levels.add(new int[] {place, reason});
        if (reason < 4 && levels.size() < 8) {
            tell(nextO, nextI);
        }
    }

    int explanation(int level, int what) {
        if (level < 0 || level >= levels.size()) {
            return NONE;
        }
        return what == 0 || what == 1 ? levels.get(level)[what] : BAD_ARGUMENT;
    }

    int write() {
        List<String> stages = new ArrayList<>();
        for (Op op : ops.subList(1, ops.size() - 1)) {
            String numbers = op.kind < 3 ? "(" + op.a + "," + op.b + ")" : op.kind < 5 ? "(" + op.a + ")" : "";
            stages.add("mfkcsdr".charAt(op.kind) + numbers + digit("", op.instances.size()));
        }
        written = String.join("|", stages) + digit("$", ops.get(ops.size() - 1).instances.size());
        return written.length();
    }

    private static String digit(String before, int size) {
        return size == 1 ? "" : before + size;
    }

    int written(int index) {
        return index < 0 || index >= written.length() ? NONE : written.charAt(index);
    }

    int clear() {
        int removed = input.size();
        input.clear();
        begin();
        return removed;
    }
}
