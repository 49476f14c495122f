/** The promises one by one: ordinary calls, the edges that the document names, and wrong arguments. */
public final class PromisesTest extends Calls {
    public static void main(String[] args) {
        constants();
        newObject();
        append();
        readPipelineTexts();
        readPipelineBeginsAnew();
        configure();
        push();
        tickTimes();
        tickAges();
        tickBlocks();
        stageKinds();
        targets();
        isQuiet();
        checkpoint();
        barrierWithoutRoom();
        alignment();
        checkpointOfSourceList();
        fail();
        rescale();
        rescaleCounters();
        count();
        operator();
        instance();
        channel();
        state();
        savedState();
        latency();
        plain();
        explain();
        explainBarrier();
        explainAlignment();
        explanation();
        write();
        written();
        clear();
        exitIfWrong();
    }

    private static void constants() {
        about("constants");
        due("NONE", PipelineSimulator.NONE, NONE);
        due("BAD_ARGUMENT", PipelineSimulator.BAD_ARGUMENT, BAD);
        due("FULL", PipelineSimulator.FULL, FULL);
        due("BEGUN", PipelineSimulator.BEGUN, BEGUN);
        due("BUSY", PipelineSimulator.BUSY, BUSY);
    }

    private static void newObject() {
        about("Promise 1");
        PipelineSimulator x = new PipelineSimulator();
        due("count(0)", x.count(0), 2);
        for (int what = 1; what <= 9; what++) {
            due("count(" + what + ")", x.count(what), 0);
        }
        due("source", x.operator(0, 0), 7);
        due("sink", x.operator(1, 0), 8);
        due("instances of the source", x.operator(0, 1), 1);
        due("instances of the sink", x.operator(1, 1), 1);
        due("operator(2, 0)", x.operator(2, 0), NONE);
        due("written(0)", x.written(0), NONE);
        due("explanation(0, 0)", x.explanation(0, 0), NONE);
        due("append", x.append('d', 1), 1);
        due("configure", x.configure(1, 1, 2, 1), 2322);
    }

    private static void append() {
        about("Promise 2");
        PipelineSimulator x = new PipelineSimulator();
        due("append(0, 1)", x.append(0, 1), 1);
        due("append(127, 2)", x.append(127, 2), 3);
        due("append(-1, 1)", x.append(-1, 1), BAD);
        due("append(128, 1)", x.append(128, 1), BAD);
        due("append(100, 0)", x.append(100, 0), BAD);
        due("append(100, 61)", x.append(100, 61), BAD);
        due("append(100, MAX)", x.append(100, Integer.MAX_VALUE), BAD);
        due("append(100, MIN)", x.append(100, Integer.MIN_VALUE), BAD);
        due("append(100, 58)", x.append(100, 58), FULL);
        due("append(100, 57)", x.append(100, 57), 60);
        due("append(100, 1)", x.append(100, 1), FULL);
        due("bad before full", x.append(128, 1), BAD);
        PipelineSimulator y = new PipelineSimulator();
        due("append(100, 60)", y.append(100, 60), 60);
        due("readPipeline()", y.readPipeline(), -2001);
        due("length after reading", y.append(100, 1), 1);
        due("readPipeline()", y.readPipeline(), 1);
    }

    private static void readPipelineTexts() {
        about("Promise 3");
        String[] good = {"", "$1", "$3", "d", "r3", "m(1,2)", "m(-99,99)2", "m(00,-0)", "k(1,-1)", "f(0,0)", "f(2,-99)3",
            "f(02,1)", "c(0)", "c(3)", "c(-0)", "c(03)", "s(1)", "s(5)3$2", "s(05)", "d|r|d|r$3", "m(1,2)|f(1,2)|k(3,4)|c(1)"};
        int[] stages = {0, 0, 0, 1, 1, 1, 1, 1, 1, 1, 1, 1, 1, 1, 1, 1, 1, 1, 1, 4, 4};
        for (int i = 0; i < good.length; i++) {
            due("reading " + good[i], read(new PipelineSimulator(), good[i]), stages[i]);
        }
        String[] bad = {"x", "D", " d", "|", "d|", "d|x", "d||d", "|d", "d|d|d|d|d", "d4", "d0", "d11", "d(", "d$", "$", "$0", "$4",
            "$11", "d\0", "$1\0", "$1|d", "d$2d", "m", "m(", "m()", "m(,", "m(1", "m(1)", "m(1,", "m(1,2", "m(1,2,", "m(100,1)", "m(-", "m(--1,1)",
            "m(-100,1)", "m(1 ,2)", "m[1,2)", "f(3,1)", "f(-1,1)", "f(3", "f(12,1)", "f(1,100)", "c(4)", "c(4", "c(40)", "c(-1)",
            "c(1,1)", "s(0)", "s(6)", "s(-0)", "s(00)", "s(51)", "s(1)4", "s(1)|", "k(1)", "r()", "$3$3", "\0", "m(a,1)"};
        int[] at = {0, 0, 0, 0, 2, 2, 2, 0, 7, 1, 1, 2, 1, 2, 1, 1, 1,
            2, 1, 2, 2, 3, 1, 2, 2, 2, 3, 3, 4, 5, 5, 4, 3, 3,
            5, 3, 1, 3, 4, 3, 4, 6, 3, 3, 4, 4,
            3, 3, 3, 4, 4, 4, 4, 5, 3, 1, 2, 0, 2};
        for (int i = 0; i < bad.length; i++) {
            due("reading " + bad[i], read(new PipelineSimulator(), bad[i]), -2000 - at[i]);
        }
    }

    private static void readPipelineBeginsAnew() {
        about("Promise 3");
        PipelineSimulator x = with("c(2)3", 1, 1, 2, 5);
        pushAll(x, 3, 4, 5);
        x.tick(200);
        x.checkpoint();
        x.tick(200);
        x.fail();
        x.write();
        x.explain(0, 0);
        due("a syntax error", read(x, "c(2)3|"), -2006);
        due("the text after an error", x.append('d', 1), 1);
        due("operators stay after an error", x.count(0), 3);
        due("the checkpoint stays after an error", x.count(4), 1);
        due("states stay after an error", x.count(9), 4);
        due("readPipeline()", x.readPipeline(), 1);
        int[] counts = {3, 2, 0, 0, 0, 0, 0, 0, 0, 0};
        for (int what = 0; what <= 9; what++) {
            due("count(" + what + ")", x.count(what), counts[what]);
        }
        due("kind", x.operator(1, 0), 5);
        due("instances", x.operator(1, 1), 1);
        for (int what = 4; what <= 7; what++) {
            due("operator(2, " + what + ")", x.operator(2, what), 0);
        }
        due("state", x.state(2, 3, 0), NONE);
        due("saved state", x.savedState(2, 3, 0), NONE);
        due("latency(-1)", x.latency(-1), NONE);
        due("plain", x.plain(3, 0), NONE);
        due("the explanation stays", x.explanation(0, 1), 4);
        due("the written text stays", x.written(0), 'c');
        due("settings stay, and nothing has begun", x.configure(2, 3, 2, 2), 1125);
        x.tick(200);
        due("the input stays", x.state(2, 3, 0), 9);
        due("an empty text", x.readPipeline(), 0);
        due("operators", x.count(0), 2);
        PipelineSimulator y = with("m(5,6)2|k(7,8)$2", 1, 1, 4, 5);
        pushAll(y, 1, 1, 2, 3);
        y.tick(200);
        y.checkpoint();
        y.tick(200);
        read(y, "d|c(2)");
        for (int o = 0; o < 4; o++) {
            due("no a is left", y.operator(o, 2), o == 2 ? 2 : 0);
            due("no b is left", y.operator(o, 3), 0);
            due("one instance", y.operator(o, 1), 1);
            due("no counter is left", y.instance(o, 0, 4), 0);
        }
        y.fail();
        due("nor in checkpoint 0", y.instance(0, 0, 4), 0);
        due("the offset of checkpoint 0", y.count(2), 0);
    }

    private static void configure() {
        about("Promise 4");
        PipelineSimulator x = new PipelineSimulator();
        due("least", x.configure(1, 1, 2, 1), 2322);
        due("greatest", x.configure(4, 9, 4, 5), 1121);
        int[][] bad = {{0, 1, 2, 1}, {5, 1, 2, 1}, {1, 0, 2, 1}, {1, 10, 2, 1}, {1, 1, 1, 1}, {1, 1, 5, 1}, {1, 1, 2, 0}, {1, 1, 2, 6}};
        for (int[] b : bad) {
            due("configure" + b[0] + "," + b[1] + "," + b[2] + "," + b[3], x.configure(b[0], b[1], b[2], b[3]), BAD);
        }
        x.tick(5);
        x.fail();
        x.rescale(1, 2);
        due("no tick was performed", x.configure(2, 3, 3, 4), 4945);
        x.push(1, 1);
        x.tick(1);
        due("after a tick", x.configure(1, 1, 2, 1), BEGUN);
        due("bad before begun", x.configure(0, 1, 2, 1), BAD);
        x.clear();
        due("after clear", x.configure(1, 1, 2, 1), 2334);
        x.checkpoint();
        due("after a checkpoint", x.configure(1, 1, 2, 1), BEGUN);
        x.fail();
        due("after a discarded checkpoint", x.configure(1, 1, 2, 1), BEGUN);
        x.readPipeline();
        due("after reading", x.configure(2, 3, 2, 2), 1121);
    }

    private static void push() {
        about("Promise 5");
        PipelineSimulator x = new PipelineSimulator();
        due("push(0, -99)", x.push(0, -99), 1);
        due("push(15, 99)", x.push(15, 99), 2);
        due("push(-1, 0)", x.push(-1, 0), BAD);
        due("push(16, 0)", x.push(16, 0), BAD);
        due("push(0, -100)", x.push(0, -100), BAD);
        due("push(0, 100)", x.push(0, 100), BAD);
        for (int i = 3; i <= 60; i++) {
            due("push(1, 1)", x.push(1, 1), i);
        }
        due("the 61st", x.push(1, 1), FULL);
        due("bad before full", x.push(16, 1), BAD);
        due("count(1)", x.count(1), 60);
        x.tick(200);
        due("sum of 0", x.state(1, 0, 0), -99);
        due("sum of 15", x.state(1, 15, 0), 99);
        due("number of 1", x.state(1, 1, 1), 58);
        due("still full", x.push(1, 1), FULL);
    }

    private static void tickTimes() {
        about("Promise 6");
        PipelineSimulator x = new PipelineSimulator();
        due("tick(0)", x.tick(0), BAD);
        due("tick(201)", x.tick(201), BAD);
        for (int far : FAR) {
            due("tick(" + far + ")", x.tick(far), BAD);
        }
        due("quiet", x.tick(200), 0);
        pushAll(x, 3, 5, 6, 7);
        due("tick(2)", x.tick(2), 2);
        due("the rate", x.state(1, 3, 1), 2);
        due("the offset", x.count(2), 3);
        due("until quiet", x.tick(200), 3);
        due("all", x.state(1, 3, 0), 18);
        due("ticks", x.count(3), 5);
        x.checkpoint();
        due("a checkpoint is not quiet", x.tick(200), 2);
        PipelineSimulator y = with("c(3)|c(3)|c(3)|c(3)", 1, 1, 2, 1);
        pushAll(y, 3, 1, 2, 3, 4);
        due("the limit", y.tick(200), 200);
        due("ticks", y.count(3), 200);
        due("not quiet", y.isQuiet(), 0);
    }

    private static void tickAges() {
        about("Promise 6, ages");
        PipelineSimulator x = with("", 3, 2, 2, 2);
        x.push(3, 5);
        x.tick(1);
        due("open", x.channel(0, 0, 0, 1), 1);
        due("age", x.channel(0, 0, 0, 3), 0);
        x.tick(1);
        due("age", x.channel(0, 0, 0, 3), 1);
        x.push(3, 6);
        x.tick(1);
        due("taken in the tick that closed it", x.state(1, 3, 0), 5);
        due("a new open batch", x.channel(0, 0, 0, 3), 0);
        due("open", x.channel(0, 0, 0, 1), 1);
        due("ticks until quiet", x.tick(200), 2);
        // the third record stays open, and grows old, while the queue is full
        PipelineSimulator y = with("", 1, 1, 2, 5);
        pushAll(y, 3, 1, 2, 3);
        y.tick(1);
        due("queue", y.channel(0, 0, 0, 0), 2);
        due("age", y.channel(0, 0, 0, 3), 0);
        y.tick(1);
        due("two were taken", y.state(1, 3, 1), 2);
        due("old, but there was no room", y.channel(0, 0, 0, 3), 1);
        due("open", y.channel(0, 0, 0, 1), 1);
        y.tick(1);
        due("closed when there is room", y.state(1, 3, 1), 3);
    }

    private static void tickBlocks() {
        about("Promise 6, credits");
        PipelineSimulator x = blockedSource(6);
        due("queue", x.channel(0, 0, 0, 0), 2);
        due("open", x.channel(0, 0, 0, 1), 1);
        due("list", x.instance(0, 0, 0), 1);
        due("offset", x.count(2), 4);
        due("blocked", x.operator(0, 6), 1);
        due("idle", x.operator(0, 7), 0);
        x.tick(1);
        due("taken", x.state(1, 3, 1), 2);
        due("in the channel", x.channel(0, 0, 0, 2), 3);
        due("offset", x.count(2), 6);
        due("list", x.instance(0, 0, 0), 1);
        due("blocked", x.operator(0, 6), 2);
        x.tick(1);
        due("taken", x.state(1, 3, 1), 4);
        due("idle, when the input has ended", x.operator(0, 7), 1);
        // budget 0 and a list that cannot be sent is blocked, not idle: a rate of 4 ends with the fourth record
        PipelineSimulator y = with("", 1, 3, 2, 4);
        pushAll(y, 3, 1, 2, 3, 4, 5);
        y.tick(1);
        due("blocked without budget", y.operator(0, 6), 1);
        PipelineSimulator z = with("", 1, 3, 2, 3);
        pushAll(z, 3, 1, 2, 3);
        z.tick(1);
        due("the budget ended", z.operator(0, 6) + z.operator(0, 7), 0);
    }

    private static void stageKinds() {
        about("Promise 6, kinds");
        dueResult("m(-3,7)", 5, 5, -3 * 6 + 21, 3, 1, 2, 3);
        dueResult("m(99,99)|m(99,99)|m(99,99)|m(99,99)", 1, 1, (((99 * 99 + 99) * 99 + 99) * 99 + 99) * 99 + 99, 1, 99);
        dueResult("f(0,2)", 5, 5, 1, 1, 1, 2, 3);
        dueResult("f(1,2)", 5, 5, 2, 1, 1, 2, 3);
        dueResult("f(2,2)", 5, 5, 3, 1, 1, 2, 3);
        dueResult("f(2,3)", 5, 5, NONE, NONE, 1, 2, 3);
        dueResult("k(3,-20)", 5, 11, 6, 3, 1, 2, 3);
        dueResult("k(7,9)", 5, 12, 6, 3, 1, 2, 3);
        dueResult("c(0)", 5, 5, NONE, NONE, 1, 2);
        dueResult("c(1)", 5, 5, 3, 2, 1, 2);
        dueResult("c(3)", 5, 5, 1 + 2 + 3 + 2 + 3 + 4, 6, 1, 2);
        dueResult("s(1)", 5, 5, 6, 3, 1, 2, 3);
        dueResult("s(2)|c(2)", 5, 5, 3 + 4, 2, 1, 2, 3);
        dueResult("d", 5, 5, 4 + 5 + 4, 3, 4, 4, 5, 5, 4);
        dueResult("d", 5, 5, 0, 1, 0, 0);
        dueResult("r", 5, 5, -3 - 1 + 2, 3, -3, -3, -1, -2, 2, 1, 2);
        PipelineSimulator s = quiet("s(2)", 5, 1, 2, 3);
        due("the rest of the sum", s.state(1, 5, 0), 3);
        due("the rest of the number", s.state(1, 5, 1), 1);
        PipelineSimulator none = quiet("s(3)", 5, 1, 2, 3);
        due("removed", none.state(1, 5, 0), NONE);
        PipelineSimulator r = quiet("r", 5, 4, 9, 2);
        due("greatest", r.state(1, 5, 0), 9);
        due("and 0", r.state(1, 5, 1), 0);
        PipelineSimulator d = quiet("d", 5, 4, 9, 2);
        due("latest", d.state(1, 5, 0), 2);
        due("and 0", d.state(1, 5, 1), 0);
    }

    private static void targets() {
        about("Promise 6, targets");
        PipelineSimulator x = with("d3", 4, 9, 4, 5);
        for (int key = 0; key < 5; key++) {
            x.push(key, 1);
        }
        x.tick(1);
        due("keys 0 to 2", x.channel(0, 0, 0, 2), 3);
        due("keys 3 and 4", x.channel(0, 0, 1, 2), 2);
        due("no key above", x.channel(0, 0, 2, 2), 0);
        due("no counter", x.instance(0, 0, 4), 0);
        PipelineSimulator y = with("d3$2", 4, 9, 4, 5);
        for (int key = 11; key < 16; key++) {
            y.push(key, 1);
        }
        y.tick(1);
        due("no key below", y.channel(0, 0, 0, 2), 0);
        due("keys 11 to 13", y.channel(0, 0, 1, 2), 3);
        due("keys 14 and 15", y.channel(0, 0, 2, 2), 2);
        PipelineSimulator z = with("m(1,0)3", 4, 9, 4, 5);
        pushAll(z, 0, 1, 2, 3, 4, 5);
        z.tick(1);
        due("in turn", z.channel(0, 0, 0, 2), 2);
        due("in turn", z.channel(0, 0, 1, 2), 2);
        due("in turn", z.channel(0, 0, 2, 2), 1);
        due("the counter", z.instance(0, 0, 4), 5);
    }

    private static void isQuiet() {
        about("Promise 7");
        PipelineSimulator x = new PipelineSimulator();
        due("new", x.isQuiet(), 1);
        x.push(1, 1);
        due("input", x.isQuiet(), 0);
        x.tick(1);
        due("only an open batch", x.isQuiet(), 0);
        x.tick(3);
        due("all taken", x.isQuiet(), 1);
        x.checkpoint();
        due("a checkpoint", x.isQuiet(), 0);
        x.tick(2);
        due("complete", x.isQuiet(), 1);
        due("no tick", x.tick(1), 0);
        PipelineSimulator list = blockedSource(4);
        due("a list", list.isQuiet(), 0);
        PipelineSimulator failed = new PipelineSimulator();
        failed.push(1, 1);
        failed.tick(200);
        failed.fail();
        due("replay", failed.isQuiet(), 0);
    }

    private static void checkpoint() {
        about("Promise 8");
        PipelineSimulator x = new PipelineSimulator();
        due("the first", x.checkpoint(), 1);
        due("running", x.count(5), 1);
        due("not complete", x.count(4), 0);
        due("the source holds the barrier", x.instance(0, 0, 1), 1);
        due("busy", x.checkpoint(), BUSY);
        x.tick(1);
        due("put", x.instance(0, 0, 1), 0);
        due("a barrier is a batch", x.channel(0, 0, 0, 0), 1);
        due("but no record", x.channel(0, 0, 0, 2), 0);
        x.tick(1);
        due("complete", x.count(4), 1);
        due("none runs", x.count(5), 0);
        due("barriers are not processed", x.operator(1, 4), 0);
        due("the second", x.checkpoint(), 2);
        x.fail();
        due("discarded", x.count(5), 0);
        due("its number again", x.checkpoint(), 2);
        // the barrier closes the open batch, and needs room for both
        PipelineSimulator y = with("", 4, 9, 2, 1);
        pushAll(y, 1, 7, 8);
        y.tick(1);
        y.checkpoint();
        y.tick(1);
        due("batch and barrier", y.channel(0, 0, 0, 0), 2);
        due("then the next record", y.channel(0, 0, 0, 1), 1);
        y.tick(2);
        due("complete", y.count(4), 1);
        due("before the barrier", y.savedState(1, 1, 0), 7);
    }

    private static void barrierWithoutRoom() {
        about("Promise 8, room");
        PipelineSimulator x = with("c(3)|d2", 1, 9, 2, 1);
        x.push(7, 1);
        x.tick(1);
        x.checkpoint();
        x.tick(2);
        due("held", x.instance(1, 0, 1), 1);
        due("blocked", x.operator(1, 6), 1);
        due("its list is sent", x.instance(1, 0, 0), 0);
        due("the channel without room", x.channel(1, 0, 1, 0), 1);
        due("its open batch", x.channel(1, 0, 1, 1), 1);
        due("the other one gets none", x.channel(1, 0, 0, 0), 0);
        dueLevels(x, 1, 0, 10, 2, 21, 5);
        x.tick(1);
        due("put", x.instance(1, 0, 1), 0);
        due("batch and barrier", x.channel(1, 0, 1, 0), 2);
        due("barrier", x.channel(1, 0, 0, 0), 1);
        due("a source alone", x.operator(0, 6), 0);
        // with one channel alone
        PipelineSimulator y = with("c(3)", 1, 9, 2, 1);
        y.push(7, 1);
        y.tick(1);
        y.checkpoint();
        y.tick(2);
        due("held", y.instance(1, 0, 1), 1);
        y.tick(1);
        due("put", y.instance(1, 0, 1), 0);
    }

    private static void alignment() {
        about("Promise 8, alignment");
        PipelineSimulator x = aligning();
        due("stopped", x.instance(3, 0, 2), 1);
        due("pointer", x.instance(3, 0, 3), 1);
        due("running", x.count(5), 1);
        x.tick(1);
        due("idle while stopped", x.instance(3, 0, 2), 1);
        x.tick(1);
        due("none is stopped", x.instance(3, 0, 2), 0);
        due("pointer", x.instance(3, 0, 3), 0);
        due("complete", x.count(4), 1);
        due("sum", x.savedState(2, 7, 0), 6);
        due("number", x.savedState(2, 7, 1), 3);
        due("ticks", x.tick(200), 0);
        // what comes behind a barrier waits, and is not saved
        PipelineSimulator y = with("d2", 1, 9, 4, 2);
        pushAll(y, 0, 1);
        pushAll(y, 7, 1);
        y.checkpoint();
        y.tick(1);
        due("barrier and record", y.channel(0, 0, 0, 0), 2);
        y.tick(200);
        due("nothing is saved of it", y.savedState(1, 0, 0), NONE);
        due("nothing in the sink", y.savedState(2, 7, 0), NONE);
        due("but processed", y.count(9), 2);
    }

    private static void checkpointOfSourceList() {
        about("Promise 8, source");
        PipelineSimulator x = with("m(1,0)", 1, 9, 2, 5);
        pushAll(x, 1, 1, 2, 3, 4, 5, 6);
        x.tick(1);
        due("counter", x.instance(0, 0, 4), 3);
        due("offset", x.count(2), 4);
        x.checkpoint();
        x.tick(200);
        due("counter", x.instance(0, 0, 4), 6);
        due("complete", x.count(4), 1);
        x.fail();
        due("counter as it was", x.instance(0, 0, 4), 3);
        due("offset as it was", x.count(2), 4);
        due("sink", x.state(2, 1, 0), 10);
        x.tick(200);
        due("nothing lost, nothing twice", x.state(2, 1, 0), 21);
    }

    private static void fail() {
        about("Promise 9");
        PipelineSimulator x = new PipelineSimulator();
        due("at first", x.fail(), 0);
        x = blockedSource(4);
        x.checkpoint();
        due("none is complete", x.fail(), 0);
        int[] counts = {2, 4, 0, 1, 0, 0, 1, 0, 0, 0};
        for (int what = 0; what <= 9; what++) {
            due("count(" + what + ")", x.count(what), counts[what]);
        }
        due("no barrier", x.instance(0, 0, 1), 0);
        due("the queue", x.channel(0, 0, 0, 0), 0);
        x.tick(200);
        due("replayed", x.state(1, 3, 0), 10);
        x.checkpoint();
        x.tick(200);
        pushAll(x, 3, 7);
        x.tick(200);
        due("after the checkpoint", x.state(1, 3, 0), 17);
        due("the latest", x.fail(), 1);
        due("restored", x.state(1, 3, 0), 10);
        due("offset", x.count(2), 4);
        due("the input stays", x.count(1), 5);
        due("failures", x.count(6), 2);
        x.tick(200);
        due("replayed", x.state(1, 3, 0), 17);
        due("replayed ones count", x.operator(1, 4), 6);
        PipelineSimulator old = with("", 2, 9, 2, 1);
        old.push(1, 1);
        old.tick(3);
        due("age", old.channel(0, 0, 0, 3), 2);
        old.fail();
        due("no open batch", old.channel(0, 0, 0, 1), 0);
        old.tick(1);
        due("a new open batch", old.channel(0, 0, 0, 1), 1);
        due("its age", old.channel(0, 0, 0, 3), 0);
        PipelineSimulator y = aligning();
        y.fail();
        due("nothing is stopped", y.instance(3, 0, 2), 0);
        due("the pointer", y.instance(3, 0, 3), 0);
        due("states of the beginning", y.state(2, 7, 0), NONE);
    }

    private static PipelineSimulator keyed() {
        PipelineSimulator x = with("m(2,1)2|d2$2", 1, 9, 4, 5);
        for (int key = 0; key < 16; key++) {
            x.push(key, key);
        }
        x.tick(200);
        return x;
    }

    private static void rescale() {
        about("Promise 10");
        PipelineSimulator x = keyed();
        due("rescale(0, 1)", x.rescale(0, 1), NONE);
        due("rescale(4, 1)", x.rescale(4, 1), NONE);
        due("rescale(-1, 1)", x.rescale(-1, 1), NONE);
        due("none before bad", x.rescale(4, 0), NONE);
        due("rescale(1, 0)", x.rescale(1, 0), BAD);
        due("rescale(1, 4)", x.rescale(1, 4), BAD);
        due("no failure", x.count(6), 0);
        due("no state after the failure", x.rescale(2, 3), 0);
        due("failures", x.count(6), 1);
        due("offset", x.count(2), 0);
        due("instances", x.operator(2, 1), 3);
        x = keyed();
        x.checkpoint();
        x.tick(200);
        x.push(0, 50);
        x.tick(200);
        due("keys of instance 0", x.instance(2, 0, 5), 8);
        // from 2 to 3: of the keys 0 to 7, 3 goes from 0 to 1, 6 and 7 go from 1 to 2
        due("rescale(2, 3)", x.rescale(2, 3), 6);
        due("instance 0", x.instance(2, 0, 5), 6);
        due("instance 1", x.instance(2, 1, 5), 6);
        due("instance 2", x.instance(2, 2, 5), 4);
        due("the state", x.state(2, 0, 0), 1);
        due("the saved state", x.savedState(2, 15, 0), 31);
        due("the same number", x.rescale(2, 3), 0);
        due("it is a failure", x.count(6), 2);
        // from 3 to 1: 3 to 5 come from 1, 6 and 7 from 2
        due("rescale(2, 1)", x.rescale(2, 1), 10);
        due("not keyed", x.rescale(1, 3), 0);
        due("the sink, from 2 to 1", x.rescale(3, 1), 8);
        due("write()", x.write(), "m(2,1)3|d".length());
        x.tick(200);
        due("the result", x.state(3, 0, 0), 102);
        due("the plain one", x.plain(0, 0), 102);
        x.fail();
        due("again", x.instance(2, 0, 5), 16);
    }

    private static void rescaleCounters() {
        about("Promise 10, counters");
        PipelineSimulator x = with("m(1,0)2|m(1,0)3", 1, 9, 4, 5);
        pushAll(x, 1, 1, 2, 3, 4, 5);
        x.tick(200);
        x.checkpoint();
        x.tick(200);
        pushAll(x, 1, 6, 7);
        x.tick(200);
        due("source", x.instance(0, 0, 4), 7);
        due("instance 0", x.instance(1, 0, 4), 4);
        due("instance 1", x.instance(1, 1, 4), 3);
        x.rescale(2, 2);
        due("those before are of the checkpoint", x.instance(1, 0, 4), 3);
        due("those before are of the checkpoint", x.instance(1, 1, 4), 2);
        x.rescale(1, 3);
        due("source", x.instance(0, 0, 4), 5);
        for (int i = 0; i < 3; i++) {
            due("its own are 0", x.instance(1, i, 4), 0);
        }
        x.tick(200);
        x.fail();
        for (int i = 0; i < 3; i++) {
            due("also in the checkpoint", x.instance(1, i, 4), 0);
        }
        due("complete", x.count(4), 1);
        due("a running one is discarded", x.checkpoint(), 2);
        x.rescale(1, 2);
        due("none runs", x.count(5), 0);
    }

    private static void count() {
        about("Promise 11");
        PipelineSimulator x = with("d|c(2)", 1, 3, 2, 5);
        for (int i = 1; i <= 6; i++) {
            x.push(3, i);
        }
        x.tick(1);
        x.checkpoint();
        int[] first = {4, 6, 4, 1, 0, 1, 0, 3, 1, 0};
        for (int what = 0; what <= 9; what++) {
            due("count(" + what + ")", x.count(what), first[what]);
        }
        x.tick(200);
        x.push(9, 9);
        x.tick(200);
        x.fail();
        int[] last = {4, 7, 4, x.count(3), 1, 0, 1, 0, 0, 8};
        for (int what = 0; what <= 9; what++) {
            due("count(" + what + ")", x.count(what), last[what]);
        }
        PipelineSimulator y = with("c(3)", 1, 9, 2, 1);
        pushAll(y, 7, 1, 2, 3);
        y.tick(3);
        due("the list of the last stage", y.instance(1, 0, 0), 2);
        due("is counted", y.count(8), 2);
        due("count(10)", x.count(10), BAD);
        for (int far : FAR) {
            due("count(" + far + ")", x.count(far), BAD);
        }
    }

    private static void operator() {
        about("Promise 12");
        PipelineSimulator x = with("m(3,-4)2|f(2,5)|k(7,8)|c(3)3$2", 1, 1, 2, 1);
        int[][] parts = {{7, 1, 0, 0}, {0, 2, 3, -4}, {1, 1, 2, 5}, {2, 1, 7, 8}, {3, 3, 3, 0}, {8, 2, 0, 0}};
        for (int o = 0; o < 6; o++) {
            for (int what = 0; what < 4; what++) {
                due("operator(" + o + ", " + what + ")", x.operator(o, what), parts[o][what]);
            }
        }
        due("none", x.operator(6, 0), NONE);
        due("none before bad", x.operator(6, 8), NONE);
        due("bad", x.operator(5, 8), BAD);
        for (int far : FAR) {
            due("none", x.operator(far, 0), NONE);
            due("bad", x.operator(0, far), BAD);
        }
        PipelineSimulator y = with("s(4)|d|r", 1, 1, 2, 1);
        int[][] rest = {{4, 1, 4, 0}, {5, 1, 0, 0}, {6, 1, 0, 0}};
        for (int o = 0; o < 3; o++) {
            for (int what = 0; what < 4; what++) {
                due("operator(" + (o + 1) + ", " + what + ")", y.operator(o + 1, what), rest[o][what]);
            }
        }
        PipelineSimulator z = quiet("f(2,1)|c(3)", 5, 1, 2, 3);
        int[][] flow = {{3, 3}, {3, 2}, {2, 6}, {6, 0}};
        for (int o = 0; o < 4; o++) {
            due("processed by " + o, z.operator(o, 4), flow[o][0]);
            due("emitted by " + o, z.operator(o, 5), flow[o][1]);
        }
        z.checkpoint();
        z.tick(200);
        due("no barrier is processed", z.operator(1, 4), 3);
        z.rescale(1, 2);
        due("a failure leaves it", z.operator(1, 4), 3);
        PipelineSimulator b = blockedSource(6);
        b.tick(200);
        due("blocked twice", b.operator(0, 6), 2);
        due("the sink is never blocked", b.operator(1, 6), 0);
        due("idle in each tick", b.operator(1, 7), b.count(3));
        // with more instances, each counts for itself
        PipelineSimulator i = with("d3", 1, 1, 2, 5);
        i.push(0, 1);
        i.tick(1);
        due("three are idle", i.operator(1, 7), 3);
    }

    private static void instance() {
        about("Promise 13");
        PipelineSimulator x = blockedSource(6);
        x.checkpoint();
        int[] source = {1, 1, 0, 0, 0, 0};
        for (int what = 0; what <= 5; what++) {
            due("instance(0, 0, " + what + ")", x.instance(0, 0, what), source[what]);
        }
        due("none", x.instance(0, 1, 0), NONE);
        due("none", x.instance(2, 0, 0), NONE);
        due("none before bad", x.instance(0, 1, 6), NONE);
        due("bad", x.instance(0, 0, 6), BAD);
        for (int far : FAR) {
            due("none", x.instance(far, 0, 0), NONE);
            due("none", x.instance(0, far, 0), NONE);
            due("bad", x.instance(0, 0, far), BAD);
        }
        PipelineSimulator y = aligning();
        due("stopped", y.instance(3, 0, 2), 1);
        due("keys", y.instance(2, 1, 5), 1);
        due("no keys", y.instance(2, 0, 5), 0);
        due("pointer", y.instance(3, 0, 3), 1);
        // the pointer goes over an empty channel, and on to the next one
        PipelineSimulator z = with("m(1,0)3|d2", 1, 9, 4, 1);
        pushAll(z, 7, 1, 2, 3, 4);
        z.tick(2);
        due("pointer", z.instance(2, 1, 3), 0);
        z.tick(1);
        due("after channel 0", z.instance(2, 1, 3), 1);
        z.tick(1);
        due("after channel 1", z.instance(2, 1, 3), 2);
        z.tick(2);
        due("round to channel 0", z.instance(2, 1, 3), 1);
        due("the other one", z.instance(2, 0, 3), 0);
        // ascending from the pointer: channel 0 is empty, 1 comes before 2
        PipelineSimulator f = with("f(2,0)3|d", 1, 9, 4, 5);
        pushAll(f, 7, -1, 1, 2);
        f.tick(3);
        due("the last one is of channel 2", f.state(2, 7, 0), 2);
        due("from the last one to the first", f.instance(2, 0, 3), 0);
        due("the third of three", with("d3", 1, 1, 2, 1).instance(1, 2, 0), 0);
    }

    private static void channel() {
        about("Promise 14");
        PipelineSimulator x = with("", 2, 9, 3, 5);
        pushAll(x, 1, 1, 2, 3, 4, 5);
        x.tick(1);
        int[] parts = {2, 1, 5, 0, 1};
        for (int what = 0; what <= 4; what++) {
            due("channel(0, 0, 0, " + what + ")", x.channel(0, 0, 0, what), parts[what]);
        }
        due("bad", x.channel(0, 0, 0, 5), BAD);
        due("none", x.channel(0, 0, 1, 0), NONE);
        due("none", x.channel(0, 1, 0, 0), NONE);
        due("none from the sink", x.channel(1, 0, 0, 0), NONE);
        due("none before bad", x.channel(1, 0, 0, 5), NONE);
        for (int far : FAR) {
            due("none", x.channel(far, 0, 0, 0), NONE);
            due("none", x.channel(0, far, 0, 0), NONE);
            due("none", x.channel(0, 0, far, 0), NONE);
            due("bad", x.channel(0, 0, 0, far), BAD);
        }
        PipelineSimulator y = with("", 4, 9, 2, 1);
        pushAll(y, 1, 1, 2, 3);
        y.tick(3);
        due("age", y.channel(0, 0, 0, 3), 2);
        y.checkpoint();
        y.tick(1);
        due("no age when empty", y.channel(0, 0, 0, 3), 0);
        due("no credit", y.channel(0, 0, 0, 4), 0);
        y.tick(1);
        due("the batch has a record left", y.channel(0, 0, 0, 0), 2);
        due("two of three are left", y.channel(0, 0, 0, 2), 2);
        PipelineSimulator z = with("d3|m(1,1)2", 1, 1, 4, 1);
        due("between the last instances", z.channel(1, 2, 1, 4), 4);
        due("there is no third", z.channel(1, 2, 2, 4), NONE);
    }

    private static void state() {
        about("Promise 15");
        PipelineSimulator x = quiet("s(3)2|m(1,0)", 12, 4, 5);
        due("sum", x.state(1, 12, 0), 9);
        due("number", x.state(1, 12, 1), 2);
        due("bad", x.state(1, 12, 2), BAD);
        due("bad", x.state(1, 12, -1), BAD);
        due("no state", x.state(1, 11, 0), NONE);
        due("none before bad", x.state(1, 11, 2), NONE);
        due("no state yet", x.state(3, 12, 0), NONE);
        due("not keyed", x.state(2, 12, 0), NONE);
        due("the source", x.state(0, 12, 0), NONE);
        due("no key", x.state(1, 16, 0), NONE);
        due("no key, though 28 modulo 16 is 12", x.state(1, 28, 0), NONE);
        for (int far : FAR) {
            due("no operator", x.state(far, 12, 0), NONE);
            due("no key", x.state(1, far, 0), NONE);
        }
        x.push(12, 6);
        x.tick(200);
        due("removed", x.state(1, 12, 0), NONE);
        due("sink", x.state(3, 12, 0), 15);
        due("sink", x.state(3, 12, 1), 1);
    }

    private static void savedState() {
        about("Promise 16");
        PipelineSimulator x = quiet("s(3)2|m(1,0)", 12, 4, 5);
        due("checkpoint 0", x.savedState(1, 12, 0), NONE);
        x.checkpoint();
        x.tick(1);
        due("not complete", x.savedState(1, 12, 0), NONE);
        x.tick(200);
        due("sum", x.savedState(1, 12, 0), 9);
        due("number", x.savedState(1, 12, 1), 2);
        x.push(12, 6);
        x.tick(200);
        due("removed since", x.state(1, 12, 0), NONE);
        due("but saved", x.savedState(1, 12, 0), 9);
        due("no state then", x.savedState(3, 12, 0), NONE);
        due("bad", x.savedState(1, 12, 2), BAD);
        due("none before bad", x.savedState(1, 11, 2), NONE);
        due("not keyed", x.savedState(2, 12, 0), NONE);
        due("the source", x.savedState(0, 12, 0), NONE);
        due("no key", x.savedState(1, 16, 0), NONE);
        for (int far : FAR) {
            due("no operator", x.savedState(far, 12, 0), NONE);
            due("no key", x.savedState(1, far, 0), NONE);
        }
        x.checkpoint();
        x.tick(200);
        due("the next checkpoint", x.savedState(1, 12, 0), NONE);
        due("the next checkpoint", x.savedState(3, 12, 0), 15);
    }

    private static void latency() {
        about("Promise 17");
        PipelineSimulator x = with("", 2, 3, 2, 2);
        for (int what = -2; what <= 100; what++) {
            due("none", x.latency(what), NONE);
        }
        due("bad", x.latency(-3), BAD);
        due("bad", x.latency(101), BAD);
        x.push(1, 1);
        x.tick(200);
        due("sum", x.latency(-2), 3);
        due("number", x.latency(-1), 1);
        pushAll(x, 1, 1, 2, 3, 4);
        x.tick(200);
        // latencies 3, 1, 1, 1, 1
        due("sum", x.latency(-2), 7);
        due("number", x.latency(-1), 5);
        due("at least one", x.latency(0), 1);
        due("80 hundredths", x.latency(80), 1);
        due("81 hundredths", x.latency(81), 3);
        due("all", x.latency(100), 3);
        x.fail();
        due("a failure leaves them", x.latency(-1), 5);
        x.tick(200);
        due("replayed ones count", x.latency(-1), 10);
        due("with births of their own", x.latency(100), 3);
        // what is emitted has the birth of what it came from
        PipelineSimulator y = with("s(2)|c(2)", 1, 1, 2, 1);
        y.push(1, 1);
        y.tick(5);
        y.push(1, 2);
        y.tick(200);
        due("of the second record", y.latency(-1), 2);
        due("least", y.latency(0), 3);
        due("greatest", y.latency(100), 4);
        y.clear();
        due("none after clear", y.latency(-2), NONE);
        y.configure(1, 1, 2, 5);
        pushAll(y, 1, 1, 2);
        y.tick(200);
        due("a new sum", y.latency(-2), 6);
        due("a new number", y.latency(-1), 2);
        due("a new least", y.latency(0), 3);
        due("a new greatest", y.latency(100), 3);
        PipelineSimulator old = with("", 1, 1, 2, 1);
        old.push(1, 1);
        old.tick(200);
        due("a short one", old.latency(0), 1);
        old.clear();
        old.configure(2, 3, 2, 2);
        old.push(1, 1);
        old.tick(200);
        due("the short one is forgotten", old.latency(0), 3);
        PipelineSimulator z = with("c(3)|c(3)|c(3)|c(3)", 4, 9, 4, 1);
        pushAll(z, 3, 1, 2, 3);
        z.tick(200);
        z.tick(200);
        due("long ones are kept", z.latency(-1), 243);
        due("the longest", z.latency(100) > 64 ? 1 : 0, 1);
    }

    private static void plain() {
        about("Promise 18");
        PipelineSimulator x = with("s(2)3|c(2)2", 1, 1, 2, 2);
        pushAll(x, 3, 1, 2, 3, 4);
        due("nothing read", x.plain(3, 0), NONE);
        x.tick(1);
        due("two are read, none has arrived", x.state(3, 3, 0), NONE);
        due("sum", x.plain(3, 0), 3 + 4);
        due("number", x.plain(3, 1), 2);
        due("bad", x.plain(3, 2), BAD);
        due("bad", x.plain(3, -1), BAD);
        due("no state", x.plain(4, 0), NONE);
        due("none before bad", x.plain(4, 2), NONE);
        due("no key", x.plain(16, 0), NONE);
        for (int far : FAR) {
            due("no key", x.plain(far, 0), NONE);
        }
        x.tick(200);
        due("all", x.plain(3, 0), 3 + 4 + 7 + 8);
        x.fail();
        due("the offset is 0 again", x.plain(3, 0), NONE);
        x.tick(1);
        due("again", x.plain(3, 0), 7);
        x.clear();
        due("cleared", x.plain(3, 0), NONE);
        x.push(3, 9);
        x.push(3, 9);
        x.tick(200);
        due("a new input", x.plain(3, 0), 37);
        read(x, "d");
        due("a new pipeline", x.plain(3, 0), NONE);
        x.tick(200);
        due("a new pipeline", x.plain(3, 0), 9);
        x = quiet("c(2)", 3, 1, 2);
        due("before", x.plain(3, 0), 8);
        read(x, "d");
        x.tick(200);
        due("a new pipeline, the same offset", x.plain(3, 0), 3);
        x.clear();
        pushAll(x, 3, 7, 8);
        x.tick(200);
        due("a new input, the same offset", x.plain(3, 0), 15);
        // in depth: all of the first copy comes before the second one
        dueResult("c(2)|k(0,1)|c(2)|d", 5, 1, 1 + 2 + 3, 3, 1);
    }

    private static void explain() {
        about("Promise 19");
        PipelineSimulator x = new PipelineSimulator();
        dueLevels(x, 0, 0, 0, 4);
        dueLevels(x, 1, 0, 10, 4);
        x.push(1, 1);
        dueLevels(x, 0, 0, 0, 5);
        due("none", x.explain(2, 0), NONE);
        due("none", x.explain(0, 1), NONE);
        for (int far : FAR) {
            due("none", x.explain(far, 0), NONE);
            due("none", x.explain(0, far), NONE);
        }
        due("the one before stays", x.explanation(0, 1), 5);
        PipelineSimulator y = blockedSource(4);
        dueLevels(y, 0, 0, 0, 1, 10, 5);
        dueLevels(y, 1, 0, 10, 5);
        // it goes to the instance of the key
        PipelineSimulator z = with("d3", 1, 3, 2, 5);
        pushAll(z, 7, 1, 2, 3, 4);
        z.tick(1);
        dueLevels(z, 0, 0, 0, 1, 12, 5);
        dueLevels(z, 1, 1, 11, 4);
        PipelineSimulator long4 = with("c(3)|c(3)|c(3)|c(3)", 1, 1, 2, 1);
        pushAll(long4, 1, 1, 2, 3, 4, 5, 6, 7, 8);
        long4.tick(100);
        dueLevels(long4, 0, 0, 0, 1, 10, 1, 20, 1, 30, 1, 40, 1, 50, 5);
    }

    private static void explainBarrier() {
        about("Promise 19, barrier");
        PipelineSimulator x = blockedSource(3);
        dueLevels(x, 0, 0, 0, 4);
        x.checkpoint();
        dueLevels(x, 0, 0, 0, 2, 10, 5);
        x = blockedSource(4);
        x.checkpoint();
        dueLevels(x, 0, 0, 0, 1, 10, 5);
        PipelineSimulator y = with("d3", 1, 3, 2, 5);
        pushAll(y, 4, 1, 2, 3);
        y.tick(1);
        y.checkpoint();
        dueLevels(y, 0, 0, 0, 2, 11, 5);
        PipelineSimulator free = with("d3", 1, 3, 2, 5);
        free.checkpoint();
        dueLevels(free, 0, 0, 0, 4);
        // a barrier needs no room for an empty open batch
        PipelineSimulator z = with("", 2, 3, 2, 2);
        pushAll(z, 4, 1, 2);
        z.tick(1);
        z.checkpoint();
        dueLevels(z, 0, 0, 0, 4);
    }

    private static void explainAlignment() {
        about("Promise 19, alignment");
        PipelineSimulator x = aligning();
        dueLevels(x, 3, 0, 30, 3, 21, 5);
        x.tick(1);
        dueLevels(x, 3, 0, 30, 5);
        x.tick(1);
        dueLevels(x, 3, 0, 30, 4);
        dueLevels(eightLevels(), 0, 0, 0, 1, 10, 1, 20, 1, 30, 3, 21, 2, 31, 1, 40, 1, 50, 5);
    }

    private static void explanation() {
        about("Promise 20");
        PipelineSimulator x = blockedSource(4);
        due("none at first", x.explanation(0, 0), NONE);
        due("none before bad", x.explanation(0, 2), NONE);
        x.explain(0, 0);
        due("place", x.explanation(1, 0), 10);
        due("reason", x.explanation(0, 1), 1);
        due("bad", x.explanation(1, 2), BAD);
        due("bad", x.explanation(0, -1), BAD);
        due("none", x.explanation(2, 0), NONE);
        for (int far : FAR) {
            due("none", x.explanation(far, 0), NONE);
        }
        x.tick(200);
        due("it does not change by itself", x.explanation(0, 1), 1);
        x.clear();
        due("nor by clear", x.explanation(1, 1), 5);
        x.readPipeline();
        due("nor by reading", x.explanation(1, 1), 5);
        x.explain(1, 0);
        due("replaced", x.explanation(0, 0), 10);
        due("replaced", x.explanation(1, 0), NONE);
    }

    private static void write() {
        about("Promise 21");
        String[] same = {"", "$2", "$3", "d", "r3", "m(-99,99)2", "k(-1,0)", "f(2,-99)3", "c(0)", "s(5)3$2",
            "m(-99,-99)3|m(-99,-99)3|m(-99,-99)3|m(-99,-99)3$3"};
        for (String text : same) {
            PipelineSimulator x = new PipelineSimulator();
            read(x, text);
            due("write() of " + text, x.write(), text.length());
            dueText(x, text);
        }
        String[][] shorter = {{"$1", ""}, {"d1|r1$1", "d|r"}, {"m(01,-02)", "m(1,-2)"}, {"m(00,-0)", "m(0,0)"}, {"c(-0)2", "c(0)2"}};
        for (String[] text : shorter) {
            PipelineSimulator x = new PipelineSimulator();
            read(x, text[0]);
            dueText(x, text[1]);
        }
        PipelineSimulator x = new PipelineSimulator();
        read(x, "d2|s(3)");
        x.rescale(1, 1);
        x.rescale(2, 3);
        x.rescale(3, 2);
        dueText(x, "d|s(3)3$2");
    }

    private static void written() {
        about("Promise 22");
        PipelineSimulator x = new PipelineSimulator();
        read(x, "d2$3");
        due("empty at first", x.written(0), NONE);
        x.write();
        due("first", x.written(0), 'd');
        due("last", x.written(3), '3');
        due("behind", x.written(4), NONE);
        for (int far : FAR) {
            due("none", x.written(far), NONE);
        }
        x.rescale(1, 1);
        due("the one before", x.written(1), '2');
        x.clear();
        due("clear leaves it", x.written(3), '3');
        x.readPipeline();
        due("reading leaves it", x.written(3), '3');
        x.write();
        due("replaced", x.written(0), NONE);
    }

    private static void clear() {
        about("Promise 23");
        PipelineSimulator x = new PipelineSimulator();
        due("nothing to remove", x.clear(), 0);
        x = with("d3|c(2)", 1, 1, 4, 5);
        pushAll(x, 5, 1, 2, 3);
        x.tick(200);
        x.checkpoint();
        x.tick(200);
        x.rescale(1, 2);
        x.tick(2);
        x.checkpoint();
        type(x, "d");
        due("removed", x.clear(), 3);
        int[] counts = {4, 0, 0, 0, 0, 0, 0, 0, 0, 0};
        for (int what = 0; what <= 9; what++) {
            due("count(" + what + ")", x.count(what), counts[what]);
        }
        for (int o = 0; o < 4; o++) {
            for (int what = 4; what <= 7; what++) {
                due("operator(" + o + ", " + what + ")", x.operator(o, what), 0);
            }
            due("state", x.state(o, 5, 0), NONE);
            due("saved state", x.savedState(o, 5, 0), NONE);
        }
        due("instances stay", x.operator(1, 1), 2);
        due("counter", x.instance(1, 1, 4), 0);
        x.fail();
        due("counter of checkpoint 0", x.instance(1, 1, 4), 0);
        x.clear();
        due("no failure", x.count(6), 0);
        due("no barrier", x.instance(0, 0, 1), 0);
        due("latencies", x.latency(-1), NONE);
        due("the text stays", x.append('|', 1), 2);
        due("settings stay", x.configure(2, 3, 2, 2), 1145);
        due("quiet", x.isQuiet(), 1);
        due("numbers of checkpoints begin anew", x.checkpoint(), 1);
        x.fail();
        x.push(5, 9);
        x.tick(200);
        due("it runs", x.state(3, 5, 0), 19);
    }
}
