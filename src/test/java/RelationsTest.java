import java.util.Random;

/**
 * What the document lets follow for every run, whatever a second program would answer: each record counts once in the
 * end, none is lost on its way, and what is saved comes back. No object is asked more than its 512 calls.
 */
public final class RelationsTest extends Calls {
    private static final int RUNS = 6000;
    private static final int ACTIONS = 50;
    private static final int MOST_KEYS = 16;
    private static int quietAfterFailure = 0;
    private static int savedSomething = 0;

    private final Random random;
    private final PipelineSimulator x = new PipelineSimulator();
    /** Records keep their order only on a single way; the kinds that look at the order are left out elsewhere. */
    private final boolean singleWay;
    private final int credits;
    private final int size;
    private int sink;

    private RelationsTest(int seed) {
        random = new Random(seed);
        singleWay = random.nextBoolean();
        credits = 2 + random.nextInt(3);
        size = 1 + random.nextInt(4);
        about("seed " + seed);
    }

    public static void main(String[] args) {
        for (int seed = 0; seed < RUNS; seed++) {
            new RelationsTest(seed).run();
        }
        about("runs");
        due("enough were quiet again after a failure", quietAfterFailure >= RUNS / 4 ? 1 : 0, 1);
        due("enough had saved states", savedSomething >= RUNS / 4 ? 1 : 0, 1);
        exitIfWrong();
    }

    private void run() {
        int stages = random.nextInt(5);
        due("readPipeline()", read(x, pipeline(stages)), stages);
        sink = stages + 1;
        x.configure(size, 1 + random.nextInt(9), credits, 1 + random.nextInt(5));
        for (int i = random.nextInt(25); i > 0; i--) {
            push();
        }
        for (int i = 0; i < ACTIONS; i++) {
            act();
            if (i == ACTIONS / 2 && x.count(6) == 0) {
                nothingIsLost();
            }
        }
        channelsKeepTheirLimits();
        x.tick(200);
        if (x.tick(200) < 200) {
            quietAfterFailure += x.count(6) > 0 ? 1 : 0;
            eachRecordCountsOnce();
        }
        everyRecordOfTheSinkHasALatency();
        failureBringsBackWhatIsSaved();
    }

    private String pipeline(int stages) {
        String[] kinds = {"m(-3,7)", "f(2,-9)", "k(5,-1)", "c(2)", "c(3)", "f(0,50)", "d", "r", "s(1)", "s(2)", "s(3)"};
        StringBuilder text = new StringBuilder();
        for (int i = 0; i < stages; i++) {
            text.append(i == 0 ? "" : "|").append(kinds[random.nextInt(singleWay ? kinds.length : 6)]);
            text.append(singleWay ? "" : 1 + random.nextInt(3));
        }
        return singleWay ? text.toString() : text.append('$').append(1 + random.nextInt(3)).toString();
    }

    private void push() {
        x.push(random.nextInt(MOST_KEYS), random.nextInt(199) - 99);
    }

    private void act() {
        int choice = random.nextInt(20);
        if (choice < 12) {
            x.tick(1 + random.nextInt(5));
        } else if (choice < 15) {
            x.checkpoint();
        } else if (choice < 18) {
            push();
        } else if (choice == 18 || singleWay) {
            x.fail();
        } else {
            x.rescale(1 + random.nextInt(sink), 1 + random.nextInt(3));
        }
    }

    /** Before the first failure, what an operator has emitted is in its lists, in its channels, or processed by the next one. */
    private void nothingIsLost() {
        due("processed by the source", x.operator(0, 4), x.count(2));
        for (int o = 0; o < sink; o++) {
            int onTheWay = 0;
            for (int i = 0; i < x.operator(o, 1); i++) {
                onTheWay += x.instance(o, i, 0);
                for (int to = 0; to < x.operator(o + 1, 1); to++) {
                    onTheWay += x.channel(o, i, to, 2);
                }
            }
            due("emitted by " + o, x.operator(o, 5), onTheWay + x.operator(o + 1, 4));
        }
        due("records of the sink", x.count(9), x.operator(sink, 4));
    }

    private void channelsKeepTheirLimits() {
        int o = random.nextInt(sink);
        int from = random.nextInt(x.operator(o, 1));
        int to = random.nextInt(x.operator(o + 1, 1));
        int queue = x.channel(o, from, to, 0);
        int open = x.channel(o, from, to, 1);
        int records = x.channel(o, from, to, 2);
        due("free credits", x.channel(o, from, to, 4), credits - queue);
        due("queue within the credits", queue >= 0 && queue <= credits ? 1 : 0, 1);
        due("open batch within its size", open >= 0 && open <= size ? 1 : 0, 1);
        due("records within the batches", records >= open && records <= open + queue * size ? 1 : 0, 1);
        due("no age without records", open == 0 ? x.channel(o, from, to, 3) : 0, 0);
    }

    private void eachRecordCountsOnce() {
        due("isQuiet()", x.isQuiet(), 1);
        due("the offset", x.count(2), x.count(1));
        for (int key = 0; key < MOST_KEYS; key++) {
            duePlain(x, key, x.state(sink, key, 0), x.state(sink, key, 1));
        }
    }

    private void everyRecordOfTheSinkHasALatency() {
        int processed = x.operator(sink, 4);
        due("latency(-1)", x.latency(-1), processed == 0 ? NONE : processed);
        due("latencies rise", x.latency(0) <= x.latency(50) && x.latency(50) <= x.latency(100) ? 1 : 0, 1);
        due("the sum is within them", processed == 0 || x.latency(-2) >= processed * x.latency(0)
            && x.latency(-2) <= processed * x.latency(100) ? 1 : 0, 1);
    }

    private void failureBringsBackWhatIsSaved() {
        savedSomething += x.count(4) > 0 ? 1 : 0;
        x.fail();
        int records = 0;
        for (int key = 0; key < MOST_KEYS; key++) {
            dueState(x, sink, key, x.savedState(sink, key, 0), x.savedState(sink, key, 1));
            records += Math.max(0, x.state(sink, key, 1));
        }
        due("count(9)", x.count(9), records);
        due("count(5) + count(7) + count(8)", x.count(5) + x.count(7) + x.count(8), 0);
    }
}
