import java.util.Arrays;
import java.util.function.ToIntFunction;

/** Boundaries of Errors: what a refused call leaves as it was, and which of several errors it tells. */
final class ErrorBoundaries extends Calls {
    private ErrorBoundaries() {
    }

    /** A pipeline in the middle of its work, with a checkpoint that is complete and one that runs. */
    private static PipelineSimulator busy() {
        PipelineSimulator x = with("s(3)2", 1, 3, 2, 2);
        pushAll(x, 3, 1, 2);
        x.tick(200);
        completeCheckpoint(x);
        pushAll(x, 3, 4, 8, 16, 32);
        pushAll(x, 7, 64);
        x.tick(2);
        x.checkpoint();
        x.explain(1, 0);
        x.write();
        return x;
    }

    /** The answers to some 140 questions about the pipeline of busy(). */
    private static int[] answers(PipelineSimulator x) {
        int[] answers = new int[200];
        int at = 0;
        answers[at++] = x.isQuiet();
        for (int what = 0; what <= 9; what++) {
            answers[at++] = x.count(what);
        }
        for (int operator = 0; operator <= 2; operator++) {
            for (int what = 0; what <= 7; what++) {
                answers[at++] = x.operator(operator, what);
            }
            for (int what = 0; what <= 5; what++) {
                answers[at++] = x.instance(operator, 0, what);
                answers[at++] = x.instance(operator, 1, what);
            }
            for (int what = 0; what <= 3; what++) {
                answers[at++] = x.channel(operator, 0, 0, what);
                answers[at++] = x.channel(operator, 1, 0, what);
            }
            for (int key = 3; key <= 7; key += 4) {
                answers[at++] = x.state(operator, key, 0);
                answers[at++] = x.state(operator, key, 1);
                answers[at++] = x.savedState(operator, key, 0);
            }
        }
        for (int what = -2; what <= 0; what++) {
            answers[at++] = x.latency(what);
        }
        for (int i = 0; i <= 5; i++) {
            answers[at++] = x.plain(3, i);
            answers[at++] = x.explanation(i, 0);
            answers[at++] = x.explanation(i, 1);
            answers[at++] = x.written(i);
        }
        return answers;
    }

    private static void dueUnchanged(String call, int error, ToIntFunction<PipelineSimulator> refused) {
        PipelineSimulator x = busy();
        int[] before = answers(x);
        due(call, refused.applyAsInt(x), error);
        if (!Arrays.equals(before, answers(x))) {
            wrong(call + " changed something");
        }
    }

    @Holds(at = "Errors", says = "A call that returns an error code changes nothing")
    static void aRefusedAppendLeavesTheText() {
        PipelineSimulator x = new PipelineSimulator();
        x.append('d', 1);
        due("bad", x.append(-1, 1), BAD);
        due("bad", x.append(128, 1), BAD);
        due("bad", x.append('d', 0), BAD);
        due("bad", x.append('d', 61), BAD);
        due("length", x.append('3', 1), 2);
        due("not even a part is appended", x.append('x', 59), FULL);
        due("length", x.append('$', 1), 3);
        due("length", x.append('2', 1), 4);
        due("the text is d3$2", x.readPipeline(), 1);
        due("instances", x.operator(1, 1) * 10 + x.operator(2, 1), 32);
    }

    @Holds(at = "Errors", says = "A call that returns an error code changes nothing")
    static void aRefusedAppendLeavesTheRest() {
        dueUnchanged("append(128, 1)", BAD, x -> x.append(128, 1));
        dueUnchanged("append('d', 61)", BAD, x -> x.append('d', 61));
    }

    @Holds(at = "Errors", says = "except that readPipeline empties the text")
    static void aSyntaxErrorEmptiesTheText() {
        PipelineSimulator x = new PipelineSimulator();
        due("error", read(x, "d|d|x"), -2004);
        due("length", x.append('d', 1), 1);
        due("the text is d", x.readPipeline(), 1);
        due("a full text", x.append('d', 60), 60);
        due("error", x.readPipeline(), -2001);
        due("all is free again", x.append('d', 60), 60);
    }

    @Holds(at = "Errors", says = "A call that returns an error code changes nothing")
    static void aSyntaxErrorLeavesTheRest() {
        dueUnchanged("readPipeline()", -2000, x -> read(x, "x"));
        dueUnchanged("readPipeline()", -2020, x -> read(x, "r3|m(5,6)3|k(7,8)3$3$"));
        dueUnchanged("readPipeline()", -2012, x -> read(x, "c(1)3|d3|r|d|d"));
    }

    @Holds(at = "Errors", says = "A call that returns an error code changes nothing")
    static void aRefusedConfigureLeavesTheSettings() {
        PipelineSimulator x = new PipelineSimulator();
        int[][] bad = {{0, 9, 4, 5}, {5, 9, 4, 5}, {4, 0, 4, 5}, {4, 10, 4, 5}, {4, 9, 1, 5}, {4, 9, 5, 5}, {4, 9, 4, 0}, {4, 9, 4, 6}};
        for (int[] b : bad) {
            due("bad", x.configure(b[0], b[1], b[2], b[3]), BAD);
        }
        due("settings", x.configure(1, 2, 3, 4), 2322);
        x.checkpoint();
        due("begun", x.configure(4, 9, 4, 5), BEGUN);
        x.clear();
        due("settings", x.configure(2, 3, 2, 2), 1234);
        dueUnchanged("configure(4, 9, 4, 5)", BEGUN, y -> y.configure(4, 9, 4, 5));
        dueUnchanged("configure(5, 9, 4, 5)", BAD, y -> y.configure(5, 9, 4, 5));
    }

    @Holds(at = "Errors", says = "A call that returns an error code changes nothing")
    static void aRefusedPushLeavesTheInput() {
        dueUnchanged("push(-1, 0)", BAD, x -> x.push(-1, 0));
        dueUnchanged("push(16, 0)", BAD, x -> x.push(16, 0));
        dueUnchanged("push(0, -100)", BAD, x -> x.push(0, -100));
        dueUnchanged("push(0, 100)", BAD, x -> x.push(0, 100));
        PipelineSimulator full = with("d", 4, 1, 4, 5);
        pushMany(full, 3, 1, 60);
        due("full", full.push(3, 2), FULL);
        due("records", full.count(1), 60);
        full.tick(200);
        dueState(full, 1, 3, 1, 0);
        due("offset", full.count(2), 60);
    }

    @Holds(at = "Errors", says = "A call that returns an error code changes nothing")
    static void aRefusedTickPerformsNone() {
        dueUnchanged("tick(0)", BAD, x -> x.tick(0));
        dueUnchanged("tick(201)", BAD, x -> x.tick(201));
        dueUnchanged("tick(-1)", BAD, x -> x.tick(-1));
        PipelineSimulator x = new PipelineSimulator();
        x.push(1, 1);
        due("bad", x.tick(0), BAD);
        due("bad", x.tick(201), BAD);
        due("the simulation has not begun", x.configure(1, 1, 2, 1), 2322);
    }

    @Holds(at = "Errors", says = "A call that returns an error code changes nothing")
    static void aRefusedCheckpointLeavesTheRunningOne() {
        dueUnchanged("checkpoint()", BUSY, PipelineSimulator::checkpoint);
        PipelineSimulator x = with("", 1, 9, 4, 1);
        pushAll(x, 3, 1, 2, 3, 4);
        x.tick(1);
        x.checkpoint();
        x.tick(1);
        due("busy", x.checkpoint(), BUSY);
        due("no second barrier is held", x.instance(0, 0, 1), 0);
        x.tick(200);
        due("the first one is complete", x.count(4), 1);
        x.fail();
        due("with the offset of its beginning", x.count(2), 1);
    }

    @Holds(at = "Errors", says = "A call that returns an error code changes nothing")
    static void aRefusedRescalingIsNoFailure() {
        dueUnchanged("rescale(1, 0)", BAD, x -> x.rescale(1, 0));
        dueUnchanged("rescale(2, 4)", BAD, x -> x.rescale(2, 4));
        dueUnchanged("rescale(0, 1)", NONE, x -> x.rescale(0, 1));
        dueUnchanged("rescale(3, 1)", NONE, x -> x.rescale(3, 1));
    }

    @Holds(at = "Errors", says = "A call that returns an error code changes nothing")
    static void aRefusedQuestionChangesNothing() {
        dueUnchanged("count(10)", BAD, x -> x.count(10));
        dueUnchanged("operator(1, 8)", BAD, x -> x.operator(1, 8));
        dueUnchanged("instance(1, 0, 6)", BAD, x -> x.instance(1, 0, 6));
        dueUnchanged("channel(1, 0, 0, 5)", BAD, x -> x.channel(1, 0, 0, 5));
        dueUnchanged("state(1, 3, 2)", BAD, x -> x.state(1, 3, 2));
        dueUnchanged("savedState(1, 3, 2)", BAD, x -> x.savedState(1, 3, 2));
        dueUnchanged("latency(101)", BAD, x -> x.latency(101));
        dueUnchanged("plain(3, 2)", BAD, x -> x.plain(3, 2));
        dueUnchanged("explanation(0, 2)", BAD, x -> x.explanation(0, 2));
        dueUnchanged("explain(3, 0)", NONE, x -> x.explain(3, 0));
        dueUnchanged("written(5)", NONE, x -> x.written(5));
    }

    @Holds(at = "Errors", says = "If several errors apply, the one that is listed first at the method is returned.")
    static void appendTellsBadArgumentsBeforeAFullText() {
        PipelineSimulator x = new PipelineSimulator();
        x.append('d', 60);
        due("full alone", x.append('d', 1), FULL);
        due("code", x.append(128, 1), BAD);
        due("code", x.append(-1, 1), BAD);
        due("count", x.append('d', 61), BAD);
        due("count", x.append('d', 0), BAD);
    }

    @Holds(at = "Errors", says = "If several errors apply, the one that is listed first at the method is returned.")
    static void configureTellsBadArgumentsBeforeBegun() {
        PipelineSimulator x = new PipelineSimulator();
        x.checkpoint();
        due("begun alone", x.configure(1, 1, 2, 1), BEGUN);
        due("size", x.configure(0, 1, 2, 1), BAD);
        due("age", x.configure(1, 10, 2, 1), BAD);
        due("credits", x.configure(1, 1, 1, 1), BAD);
        due("rate", x.configure(1, 1, 2, 6), BAD);
    }

    @Holds(at = "Errors", says = "If several errors apply, the one that is listed first at the method is returned.")
    static void pushTellsBadArgumentsBeforeAFullInput() {
        PipelineSimulator x = new PipelineSimulator();
        pushMany(x, 3, 1, 60);
        due("full alone", x.push(3, 1), FULL);
        due("key", x.push(16, 1), BAD);
        due("key", x.push(-1, 1), BAD);
        due("value", x.push(3, 100), BAD);
        due("value", x.push(3, -100), BAD);
    }

    @Holds(at = "Errors", says = "If several errors apply, the one that is listed first at the method is returned.")
    static void rescaleTellsAMissingOperatorBeforeBadInstances() {
        PipelineSimulator x = new PipelineSimulator();
        due("bad alone", x.rescale(1, 4), BAD);
        due("the source", x.rescale(0, 4), NONE);
        due("behind the sink", x.rescale(2, 0), NONE);
        due("below the source", x.rescale(-1, 4), NONE);
    }

    @Holds(at = "Errors", says = "If several errors apply, the one that is listed first at the method is returned.")
    static void operatorTellsAMissingOperatorBeforeABadWhat() {
        PipelineSimulator x = new PipelineSimulator();
        due("bad alone", x.operator(1, 8), BAD);
        due("behind the sink", x.operator(2, 8), NONE);
        due("below the source", x.operator(-1, -1), NONE);
    }

    @Holds(at = "Errors", says = "If several errors apply, the one that is listed first at the method is returned.")
    static void instanceTellsAMissingInstanceBeforeABadWhat() {
        PipelineSimulator x = new PipelineSimulator();
        due("bad alone", x.instance(1, 0, 6), BAD);
        due("instance", x.instance(1, 1, 6), NONE);
        due("instance", x.instance(1, -1, -1), NONE);
        due("operator", x.instance(2, 0, 6), NONE);
    }

    @Holds(at = "Errors", says = "If several errors apply, the one that is listed first at the method is returned.")
    static void channelTellsAMissingChannelBeforeABadWhat() {
        PipelineSimulator x = new PipelineSimulator();
        due("bad alone", x.channel(0, 0, 0, 5), BAD);
        due("operator", x.channel(1, 0, 0, 5), NONE);
        due("from", x.channel(0, 1, 0, 5), NONE);
        due("to", x.channel(0, 0, 1, -1), NONE);
    }

    @Holds(at = "Errors", says = "If several errors apply, the one that is listed first at the method is returned.")
    static void stateTellsAMissingStateBeforeABadSecond() {
        PipelineSimulator x = quiet("d|c(1)", 3, 5);
        completeCheckpoint(x);
        due("bad alone", x.state(1, 3, 2), BAD);
        due("operator", x.state(4, 3, 2), NONE);
        due("key", x.state(1, 16, 2), NONE);
        due("not keyed", x.state(2, 3, 2), NONE);
        due("no state", x.state(1, 4, -1), NONE);
        due("bad alone", x.savedState(1, 3, 2), BAD);
        due("operator", x.savedState(4, 3, 2), NONE);
        due("key", x.savedState(1, 16, 2), NONE);
        due("not keyed", x.savedState(2, 3, 2), NONE);
        due("no state", x.savedState(1, 4, -1), NONE);
    }

    @Holds(at = "Errors", says = "If several errors apply, the one that is listed first at the method is returned.")
    static void latencyTellsABadWhatBeforeThatThereAreNone() {
        PipelineSimulator x = new PipelineSimulator();
        due("none alone", x.latency(0), NONE);
        due("too large", x.latency(101), BAD);
        due("too small", x.latency(-3), BAD);
    }

    @Holds(at = "Errors", says = "If several errors apply, the one that is listed first at the method is returned.")
    static void plainTellsAMissingStateBeforeABadSecond() {
        PipelineSimulator x = quiet("d", 3, 5);
        due("bad alone", x.plain(3, 2), BAD);
        due("key", x.plain(16, 2), NONE);
        due("key", x.plain(-1, -1), NONE);
        due("no state", x.plain(4, 2), NONE);
    }

    @Holds(at = "Errors", says = "If several errors apply, the one that is listed first at the method is returned.")
    static void explanationTellsAMissingLevelBeforeABadWhat() {
        PipelineSimulator x = new PipelineSimulator();
        due("no level at first", x.explanation(0, 2), NONE);
        x.explain(0, 0);
        due("bad alone", x.explanation(0, 2), BAD);
        due("level", x.explanation(1, 2), NONE);
        due("level", x.explanation(-1, -1), NONE);
    }
}
