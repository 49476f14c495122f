/** Boundaries of the promises 11 to 23: the questions, the texts, and clear. */
final class QuestionBoundaries extends Calls {
    private QuestionBoundaries() {
    }

    @Holds(at = "Promise 11: count", says = "BAD_ARGUMENT if what is not from 0 to 9")
    static void theLeastAndTheGreatestCount() {
        PipelineSimulator x = new PipelineSimulator();
        due("too small", x.count(-1), BAD);
        due("least", x.count(0), 2);
        due("greatest", x.count(9), 0);
        due("too large", x.count(10), BAD);
        for (int far : FAR) {
            due("count(" + far + ")", x.count(far), BAD);
        }
    }

    @Holds(at = "Promise 11: count", says = "5 for the number of the running checkpoint, 0 if none is")
    static void theNumberOfNoCheckpointIsZero() {
        PipelineSimulator x = new PipelineSimulator();
        due("none has begun", x.count(5), 0);
        due("none is complete", x.count(4), 0);
        x.checkpoint();
        due("one runs", x.count(5), 1);
        due("none is complete", x.count(4), 0);
        x.tick(200);
        due("none runs", x.count(5), 0);
        due("one is complete", x.count(4), 1);
        x.checkpoint();
        due("two runs", x.count(5), 2);
        x.fail();
        due("none runs", x.count(5), 0);
    }

    @Holds(at = "Promise 11: count", says = "9 for records that the sink has states of, which is the sum of the numbers of all keys")
    static void theRecordsOfTheLeastAndTheGreatestKeyAreCounted() {
        PipelineSimulator x = with("$3", 1, 1, 2, 5);
        due("none", x.count(9), 0);
        pushAll(x, 0, 0, 0);
        pushAll(x, 15, 1);
        x.tick(200);
        due("three records of two keys", x.count(9), 3);
        x.fail();
        due("none after the failure", x.count(9), 0);
    }

    @Holds(at = "Promise 11: count", says = "7 for records in all channels, 8 for records in all lists")
    static void recordsOfOpenBatchesOfQueuesAndOfListsAreCounted() {
        PipelineSimulator x = new PipelineSimulator();
        due("no records", x.count(7) + x.count(8), 0);
        x = with("$2", 1, 9, 2, 5);
        pushAll(x, 0, 1);
        pushAll(x, 7, 1, 2, 3, 4);
        x.tick(1);
        due("one, and two batches with an open one", x.count(7), 4);
        due("one is left in the list", x.count(8), 1);
    }

    @Holds(at = "Promise 12: operator", says = "NONE if there is no such operator")
    static void theFirstAndTheLastOperator() {
        PipelineSimulator x = reading("r");
        due("below the source", x.operator(-1, 0), NONE);
        due("the source", x.operator(0, 0), 7);
        due("the stage", x.operator(1, 0), 6);
        due("the sink", x.operator(2, 0), 8);
        due("behind the sink", x.operator(3, 0), NONE);
        due("far too small", x.operator(Integer.MIN_VALUE, 0), NONE);
        due("far too large", x.operator(Integer.MAX_VALUE, 0), NONE);
        PipelineSimulator four = reading("d|d|d|d");
        due("the sink", four.operator(5, 0), 8);
        due("behind the sink", four.operator(6, 0), NONE);
    }

    @Holds(at = "Promise 12: operator", says = "BAD_ARGUMENT if what is not from 0 to 7")
    static void theLeastAndTheGreatestPropertyOfAnOperator() {
        PipelineSimulator x = new PipelineSimulator();
        x.push(3, 1);
        x.tick(1);
        due("too small", x.operator(1, -1), BAD);
        due("least", x.operator(1, 0), 8);
        due("greatest", x.operator(1, 7), 1);
        due("too large", x.operator(1, 8), BAD);
        for (int far : FAR) {
            due("operator(0, " + far + ")", x.operator(0, far), BAD);
        }
    }

    @Holds(at = "Promise 12: operator", says = "2 for a and 3 for b, 0 where it has none")
    static void whatHasNoNumbersHasZeros() {
        PipelineSimulator x = reading("m(-9,-8)|f(1,7)|k(6,5)|c(3)");
        read(x, "d|s(4)|r|c(2)");
        int[] a = {0, 0, 4, 0, 2, 0};
        for (int operator = 0; operator <= 5; operator++) {
            due("a of " + operator, x.operator(operator, 2), a[operator]);
            due("b of " + operator, x.operator(operator, 3), 0);
        }
    }

    @Holds(at = "Promise 12: operator", says = "replayed ones included, where the source processes what it emits")
    static void replayedRecordsAreProcessedAndEmittedOnceMore() {
        PipelineSimulator x = quiet("c(2)", 3, 1, 2);
        int[][] once = {{2, 2}, {2, 4}, {4, 0}};
        for (int times = 1; times <= 2; times++) {
            for (int operator = 0; operator <= 2; operator++) {
                due("processed by " + operator, x.operator(operator, 4), times * once[operator][0]);
                due("emitted by " + operator, x.operator(operator, 5), times * once[operator][1]);
            }
            x.fail();
            x.tick(200);
        }
        due("the state is as before", x.count(9), 4);
    }

    @Holds(at = "Promise 12: operator", says = "6 for how often an instance of it was blocked at the end of its working; 7 for how often one was idle")
    static void blockedAndIdleAreCountedForEachInstance() {
        PipelineSimulator x = with("d3", 1, 9, 2, 5);
        pushMany(x, 7, 1, 4);
        x.tick(1);
        due("three idle stages", x.operator(1, 7), 3);
        due("no blocked stage", x.operator(1, 6), 0);
        due("the source", x.operator(0, 6) * 10 + x.operator(0, 7), 10);
        due("the sink is idle once", x.operator(2, 7), 1);
        x.fail();
        due("a failure leaves it", x.operator(1, 7), 3);
    }

    @Holds(at = "Promise 13: instance", says = "NONE if there is no such instance")
    static void theFirstAndTheLastInstance() {
        PipelineSimulator x = reading("d3");
        due("below the first", x.instance(1, -1, 0), NONE);
        due("first", x.instance(1, 0, 0), 0);
        due("last", x.instance(1, 2, 0), 0);
        due("behind the last", x.instance(1, 3, 0), NONE);
        due("a second sink", x.instance(2, 1, 0), NONE);
        due("below the source", x.instance(-1, 0, 0), NONE);
        due("behind the sink", x.instance(3, 0, 0), NONE);
        for (int far : FAR) {
            due("instance(" + far + ", 0, 0)", x.instance(far, 0, 0), NONE);
            due("instance(1, " + far + ", 0)", x.instance(1, far, 0), NONE);
        }
    }

    @Holds(at = "Promise 13: instance", says = "BAD_ARGUMENT if what is not from 0 to 5")
    static void theLeastAndTheGreatestPropertyOfAnInstance() {
        PipelineSimulator x = quiet("", 3, 1);
        due("too small", x.instance(1, 0, -1), BAD);
        due("least", x.instance(1, 0, 0), 0);
        due("greatest", x.instance(1, 0, 5), 1);
        due("too large", x.instance(1, 0, 6), BAD);
        for (int far : FAR) {
            due("instance(1, 0, " + far + ")", x.instance(1, 0, far), BAD);
        }
    }

    @Holds(at = "Promise 13: instance", says = "1 for 1 if it holds a barrier, otherwise 0")
    static void aHeldBarrierIsOneAndNoRecordOfTheList() {
        PipelineSimulator x = blockedSource(4);
        due("none", x.instance(0, 0, 1), 0);
        x.checkpoint();
        due("held", x.instance(0, 0, 1), 1);
        due("the list", x.instance(0, 0, 0), 1);
        x.tick(1);
        due("the list is sent", x.instance(0, 0, 0), 0);
        due("the queue is full", x.instance(0, 0, 1), 1);
        x.tick(1);
        due("put", x.instance(0, 0, 1), 0);
    }

    @Holds(at = "Promise 13: instance", says = "2 for the set of its stopped channels, bit i for channel i")
    static void eachChannelHasItsBit() {
        // three instances, of which the keys 3 and 4 keep the second one busy
        PipelineSimulator x = with("c(3)|s(5)3", 1, 9, 4, 1);
        x.push(3, 1);
        x.push(4, 1);
        x.tick(2);
        x.checkpoint();
        int[] stopped = {0, 0, 0, 0, 1, 5, 5, 0};
        for (int tick = 0; tick < stopped.length; tick++) {
            x.tick(1);
            due("stopped after " + (tick + 1), x.instance(3, 0, 2), stopped[tick]);
        }
    }

    @Holds(at = "Promise 13: instance", says = "5 for the number of keys for which it has a state")
    static void theFullAndTheEmptyInstanceHaveTheirKeys() {
        PipelineSimulator x = with("d|c(1)$2", 4, 1, 4, 5);
        due("none", x.instance(1, 0, 5), 0);
        for (int key = 0; key < 16; key++) {
            x.push(key, 1);
        }
        x.tick(200);
        due("all", x.instance(1, 0, 5), 16);
        due("not keyed", x.instance(2, 0, 5), 0);
        due("the source", x.instance(0, 0, 5), 0);
        due("half of them", x.instance(3, 0, 5), 8);
        due("the other half", x.instance(3, 1, 5), 8);
    }

    @Holds(at = "Promise 14: channel", says = "NONE if there is no such channel")
    static void theFirstAndTheLastChannel() {
        PipelineSimulator x = reading("d3$2");
        due("first", x.channel(0, 0, 0, 4), 2);
        due("last", x.channel(1, 2, 1, 4), 2);
        due("below the source", x.channel(-1, 0, 0, 4), NONE);
        due("from the sink", x.channel(2, 0, 0, 4), NONE);
        due("behind the sink", x.channel(3, 0, 0, 4), NONE);
        due("from below the first", x.channel(1, -1, 0, 4), NONE);
        due("from behind the last", x.channel(1, 3, 0, 4), NONE);
        due("to below the first", x.channel(1, 0, -1, 4), NONE);
        due("to behind the last", x.channel(1, 0, 2, 4), NONE);
        for (int far : FAR) {
            due("channel(" + far + ", 0, 0, 4)", x.channel(far, 0, 0, 4), NONE);
            due("channel(1, " + far + ", 0, 4)", x.channel(1, far, 0, 4), NONE);
            due("channel(1, 0, " + far + ", 4)", x.channel(1, 0, far, 4), NONE);
        }
    }

    @Holds(at = "Promise 14: channel", says = "BAD_ARGUMENT if what is not from 0 to 4")
    static void theLeastAndTheGreatestPropertyOfAChannel() {
        PipelineSimulator x = new PipelineSimulator();
        due("too small", x.channel(0, 0, 0, -1), BAD);
        due("least", x.channel(0, 0, 0, 0), 0);
        due("greatest", x.channel(0, 0, 0, 4), 2);
        due("too large", x.channel(0, 0, 0, 5), BAD);
        for (int far : FAR) {
            due("channel(0, 0, 0, " + far + ")", x.channel(0, 0, 0, far), BAD);
        }
    }

    @Holds(at = "Promise 14: channel", says = "3 for the age of its open batch, 0 if it is empty")
    static void theAgeOfAnEmptyOpenBatchIsZero() {
        PipelineSimulator x = with("", 2, 9, 2, 1);
        due("at first", x.channel(0, 0, 0, 3), 0);
        x.push(3, 1);
        x.tick(3);
        due("age", x.channel(0, 0, 0, 3), 2);
        x.push(3, 2);
        x.tick(1);
        due("the batch is closed", x.channel(0, 0, 0, 1), 0);
        due("age", x.channel(0, 0, 0, 3), 0);
        PipelineSimulator y = with("", 2, 9, 2, 1);
        y.push(3, 1);
        y.tick(3);
        y.checkpoint();
        y.tick(1);
        due("closed by a barrier", y.channel(0, 0, 0, 3), 0);
    }

    @Holds(at = "Promise 14: channel", says = "4 for the number of credits that are free")
    static void creditsAreFreeFromAllToNone() {
        PipelineSimulator x = with("", 1, 9, 4, 1);
        due("all", x.channel(0, 0, 0, 4), 4);
        PipelineSimulator y = with("", 1, 9, 4, 5);
        pushMany(y, 3, 1, 5);
        y.tick(1);
        due("none", y.channel(0, 0, 0, 4), 0);
        PipelineSimulator z = with("", 2, 9, 4, 1);
        z.push(3, 1);
        z.tick(1);
        due("an open batch needs none", z.channel(0, 0, 0, 4), 4);
        z.checkpoint();
        z.tick(1);
        due("a barrier needs one", z.channel(0, 0, 0, 4), 2);
    }

    /** A keyed stage with the key 12, one that is not keyed, and a checkpoint that has saved both. */
    private static PipelineSimulator keyed() {
        PipelineSimulator x = quiet("s(3)2|m(1,0)", 12, 4, 5);
        completeCheckpoint(x);
        return x;
    }

    @Holds(at = "Promise 15: state", says = "NONE if there is no such operator or key, the operator is not keyed, or the key has no state")
    static void theStateOfAMissingOperator() {
        PipelineSimulator x = keyed();
        due("there", x.state(1, 12, 0), 9);
        due("the source is not keyed", x.state(0, 12, 0), NONE);
        due("behind the sink", x.state(4, 12, 0), NONE);
        due("a map is not keyed", x.state(2, 12, 0), NONE);
        for (int far : FAR) {
            due("state(" + far + ", 12, 0)", x.state(far, 12, 0), NONE);
        }
    }

    @Holds(at = "Promise 15: state", says = "`key`: the key, 0 to 15")
    static void theLeastAndTheGreatestKeyOfAState() {
        PipelineSimulator x = with("d", 1, 1, 4, 5);
        x.push(0, 5);
        x.push(15, 6);
        x.tick(200);
        due("too small", x.state(1, -1, 0), NONE);
        due("least", x.state(1, 0, 0), 5);
        due("greatest", x.state(1, 15, 0), 6);
        due("too large, though 16 modulo 16 is 0", x.state(1, 16, 0), NONE);
        due("too large, though 31 modulo 16 is 15", x.state(1, 31, 0), NONE);
        for (int far : FAR) {
            due("state(1, " + far + ", 0)", x.state(1, far, 0), NONE);
        }
    }

    @Holds(at = "Promise 15: state", says = "BAD_ARGUMENT if second is not 0 or 1")
    static void theNumbersOfAStateAreTwo() {
        PipelineSimulator x = keyed();
        due("too small", x.state(1, 12, -1), BAD);
        due("first", x.state(1, 12, 0), 9);
        due("second", x.state(1, 12, 1), 2);
        due("too large", x.state(1, 12, 2), BAD);
        for (int far : FAR) {
            due("state(1, 12, " + far + ")", x.state(1, 12, far), BAD);
        }
    }

    @Holds(at = "Promise 15: state", says = "or the key has no state")
    static void aKeyWithoutAState() {
        PipelineSimulator x = keyed();
        due("the key before", x.state(1, 11, 0), NONE);
        due("the key behind", x.state(1, 13, 0), NONE);
        due("none has arrived", x.state(3, 12, 0), NONE);
        x.push(12, 6);
        x.tick(200);
        due("removed", x.state(1, 12, 0), NONE);
        due("arrived", x.state(3, 12, 0), 15);
    }

    @Holds(at = "Promise 16: savedState", says = "Returns the saved state of a key in the latest complete checkpoint.")
    static void nothingIsSavedBeforeTheFirstCheckpointIsComplete() {
        PipelineSimulator x = quiet("s(3)2|m(1,0)", 12, 4, 5);
        due("checkpoint 0", x.savedState(1, 12, 0), NONE);
        x.checkpoint();
        x.tick(3);
        due("a running one", x.savedState(1, 12, 0), NONE);
        x.tick(200);
        dueSaved(x, 1, 12, 9, 2);
        x.push(12, 6);
        x.tick(200);
        dueSaved(x, 1, 12, 9, 2);
        dueSaved(x, 3, 12, NONE, NONE);
        x.checkpoint();
        x.tick(3);
        dueSaved(x, 1, 12, 9, 2);
        x.tick(200);
        dueSaved(x, 1, 12, NONE, NONE);
        dueSaved(x, 3, 12, 15, 1);
    }

    @Holds(at = "Promise 16: savedState", says = "Returns as for state.")
    static void theSavedStateOfAMissingOperator() {
        PipelineSimulator x = keyed();
        due("there", x.savedState(1, 12, 0), 9);
        due("the source is not keyed", x.savedState(0, 12, 0), NONE);
        due("behind the sink", x.savedState(4, 12, 0), NONE);
        due("a map is not keyed", x.savedState(2, 12, 0), NONE);
        for (int far : FAR) {
            due("savedState(" + far + ", 12, 0)", x.savedState(far, 12, 0), NONE);
        }
    }

    @Holds(at = "Promise 16: savedState", says = "`key`: the key, 0 to 15")
    static void theLeastAndTheGreatestKeyOfASavedState() {
        PipelineSimulator x = with("d", 1, 1, 4, 5);
        x.push(0, 5);
        x.push(15, 6);
        x.tick(200);
        completeCheckpoint(x);
        due("too small", x.savedState(1, -1, 0), NONE);
        due("least", x.savedState(1, 0, 0), 5);
        due("greatest", x.savedState(1, 15, 0), 6);
        due("too large, though 16 modulo 16 is 0", x.savedState(1, 16, 0), NONE);
        due("too large, though 31 modulo 16 is 15", x.savedState(1, 31, 0), NONE);
        for (int far : FAR) {
            due("savedState(1, " + far + ", 0)", x.savedState(1, far, 0), NONE);
        }
    }

    @Holds(at = "Promise 16: savedState", says = "`second`: as for state")
    static void theNumbersOfASavedStateAreTwo() {
        PipelineSimulator x = keyed();
        due("too small", x.savedState(1, 12, -1), BAD);
        due("first", x.savedState(1, 12, 0), 9);
        due("second", x.savedState(1, 12, 1), 2);
        due("too large", x.savedState(1, 12, 2), BAD);
        for (int far : FAR) {
            due("savedState(1, 12, " + far + ")", x.savedState(1, 12, far), BAD);
        }
    }

    /** One record and its three copies, which have the latencies 2, 3 and 4. */
    private static PipelineSimulator threeLatencies() {
        PipelineSimulator x = with("c(3)", 1, 9, 4, 1);
        x.push(3, 1);
        x.tick(200);
        return x;
    }

    @Holds(at = "Promise 17: latency", says = "BAD_ARGUMENT if what is not from -2 to 100")
    static void theLeastAndTheGreatestWhatOfLatencies() {
        PipelineSimulator x = threeLatencies();
        due("too small", x.latency(-3), BAD);
        due("sum", x.latency(-2), 9);
        due("number", x.latency(-1), 3);
        due("greatest", x.latency(100), 4);
        due("too large", x.latency(101), BAD);
        due("far too small", x.latency(Integer.MIN_VALUE), BAD);
        due("far too large", x.latency(Integer.MAX_VALUE), BAD);
    }

    @Holds(at = "Promise 17: latency", says = "NONE if there are no latencies")
    static void withoutLatenciesThereIsNoNumber() {
        PipelineSimulator x = new PipelineSimulator();
        for (int what = -2; what <= 100; what++) {
            due("latency(" + what + ")", x.latency(what), NONE);
        }
        x.push(3, 1);
        x.tick(3);
        due("none has arrived", x.latency(-1), NONE);
        x.tick(1);
        due("one has arrived", x.latency(-1), 1);
    }

    @Holds(at = "Promise 17: latency", says = "and at least one record, did not exceed")
    static void noHundredthsAreStillOneRecord() {
        PipelineSimulator x = threeLatencies();
        due("0 hundredths", x.latency(0), 2);
        due("1 hundredth", x.latency(1), 2);
    }

    @Holds(at = "Promise 17: latency", says = "the least latency that at least so many hundredths of the records")
    static void theHundredthsOfOneAndTwoAndThreeRecords() {
        PipelineSimulator x = threeLatencies();
        due("33 hundredths are one record", x.latency(33), 2);
        due("34 hundredths are more than one", x.latency(34), 3);
        due("66 hundredths are two records", x.latency(66), 3);
        due("67 hundredths are more than two", x.latency(67), 4);
        due("99 hundredths are more than two", x.latency(99), 4);
        due("100 hundredths are all", x.latency(100), 4);
    }

    @Holds(at = "Promise 17: latency", says = "the least latency that at least so many hundredths of the records")
    static void hundredthsThatAreExactlyRecords() {
        PipelineSimulator x = with("c(2)", 1, 9, 4, 1);
        x.push(3, 1);
        x.tick(200);
        due("half of two", x.latency(50), 2);
        due("more than half of two", x.latency(51), 3);
        PipelineSimulator y = new PipelineSimulator();
        y.push(3, 1);
        y.tick(200);
        due("0 hundredths of one", y.latency(0), 3);
        due("100 hundredths of one", y.latency(100), 3);
    }

    @Holds(at = "Promise 17: latency", says = "the least latency that at least so many hundredths of the records")
    static void aLatencyOfHundredsOfTicks() {
        PipelineSimulator x = with("c(3)|c(3)|c(3)|c(3)", 4, 9, 4, 1);
        pushAll(x, 3, 1, 2, 3);
        int ticks = x.tick(200) + x.tick(200);
        due("number", x.latency(-1), 243);
        // the first record was born in the first tick, the third one in the third, and the last copy came in the last tick
        due("greatest", x.latency(100), ticks - 1 - 2);
    }

    @Holds(at = "Promise 18: plain", says = "NONE if there is no such key, or it has no state")
    static void theLeastAndTheGreatestKeyOfAPlainResult() {
        PipelineSimulator x = with("", 1, 1, 4, 5);
        x.push(0, 5);
        x.push(15, 6);
        x.tick(200);
        due("too small", x.plain(-1, 0), NONE);
        due("least", x.plain(0, 0), 5);
        due("no state", x.plain(1, 0), NONE);
        due("greatest", x.plain(15, 0), 6);
        due("too large, though 16 modulo 16 is 0", x.plain(16, 0), NONE);
        for (int far : FAR) {
            due("plain(" + far + ", 0)", x.plain(far, 0), NONE);
        }
    }

    @Holds(at = "Promise 18: plain", says = "BAD_ARGUMENT if second is not 0 or 1")
    static void theNumbersOfAPlainResultAreTwo() {
        PipelineSimulator x = quiet("", 3, 5, 6);
        due("too small", x.plain(3, -1), BAD);
        due("first", x.plain(3, 0), 11);
        due("second", x.plain(3, 1), 2);
        due("too large", x.plain(3, 2), BAD);
        for (int far : FAR) {
            due("plain(3, " + far + ")", x.plain(3, far), BAD);
        }
    }

    @Holds(at = "Promise 19: explain", says = "NONE if there is no such instance")
    static void theFirstAndTheLastInstanceToExplain() {
        PipelineSimulator x = reading("d3");
        due("below the source", x.explain(-1, 0), NONE);
        due("a second source", x.explain(0, 1), NONE);
        due("below the first", x.explain(1, -1), NONE);
        due("first", x.explain(1, 0), 1);
        due("last", x.explain(1, 2), 1);
        due("behind the last", x.explain(1, 3), NONE);
        due("the sink", x.explain(2, 0), 1);
        due("behind the sink", x.explain(3, 0), NONE);
        for (int far : FAR) {
            due("explain(" + far + ", 0)", x.explain(far, 0), NONE);
            due("explain(1, " + far + ")", x.explain(1, far), NONE);
        }
    }

    @Holds(at = "Promise 19: explain", says = "The explanation replaces the one before.")
    static void aShorterExplanationReplacesALongerOne() {
        PipelineSimulator x = blockedSource(4);
        due("two levels", x.explain(0, 0), 2);
        due("one level", x.explain(1, 0), 1);
        due("level 0", x.explanation(0, 0), 10);
        due("no level 1", x.explanation(1, 0), NONE);
    }

    @Holds(at = "Promise 20: explanation", says = "NONE if there is no such level")
    static void theFirstAndTheLastLevel() {
        PipelineSimulator x = blockedSource(4);
        due("none at first", x.explanation(0, 0), NONE);
        x.explain(0, 0);
        due("below the first", x.explanation(-1, 0), NONE);
        due("first", x.explanation(0, 0), 0);
        due("last", x.explanation(1, 0), 10);
        due("behind the last", x.explanation(2, 0), NONE);
        due("behind the greatest", x.explanation(8, 0), NONE);
        for (int far : FAR) {
            due("explanation(" + far + ", 0)", x.explanation(far, 0), NONE);
        }
    }

    @Holds(at = "Promise 20: explanation", says = "BAD_ARGUMENT if what is not 0 or 1")
    static void thePartsOfALevelAreTwo() {
        PipelineSimulator x = blockedSource(4);
        x.explain(0, 0);
        due("too small", x.explanation(1, -1), BAD);
        due("place", x.explanation(1, 0), 10);
        due("reason", x.explanation(1, 1), 5);
        due("too large", x.explanation(1, 2), BAD);
        for (int far : FAR) {
            due("explanation(1, " + far + ")", x.explanation(1, far), BAD);
        }
    }

    @Holds(at = "Promise 21: write", says = "Writes the pipeline as a text in the form of the grammar")
    static void theShortestAndTheLongestText() {
        PipelineSimulator x = new PipelineSimulator();
        due("no stages", x.write(), 0);
        String longest = "m(-99,-99)3|m(-99,-99)3|m(-99,-99)3|m(-99,-99)3$3";
        read(x, longest);
        due("longest", x.write(), 49);
        dueText(x, longest);
        due("and it can be read", read(x, textOf(x)), 4);
        dueText(reading("m(0,0)|f(0,0)|k(0,0)|c(0)"), "m(0,0)|f(0,0)|k(0,0)|c(0)");
        dueText(reading("s(1)|d|r"), "s(1)|d|r");
    }

    @Holds(at = "Promise 21: write", says = "where numbers of instances that are 1 are missing")
    static void oneInstanceIsNotWritten() {
        dueText(reading("d1|c(1)1$1"), "d|c(1)");
        dueText(reading("$1"), "");
        dueText(reading("$2"), "$2");
        dueText(reading("d2|c(1)3$3"), "d2|c(1)3$3");
        PipelineSimulator x = reading("d2|d$3");
        x.rescale(1, 1);
        x.rescale(2, 2);
        x.rescale(3, 1);
        dueText(x, "d|d2");
    }

    @Holds(at = "Promise 21: write", says = "The written text replaces the one before.")
    static void aShorterTextReplacesALongerOne() {
        PipelineSimulator x = reading("m(1,2)3$2");
        due("length", x.write(), 9);
        x.readPipeline();
        due("length", x.write(), 0);
        due("nothing is left", x.written(0), NONE);
        read(x, "d");
        due("length", x.write(), 1);
        due("first character", x.written(0), 'd');
        due("nothing is left", x.written(1), NONE);
    }

    @Holds(at = "Promise 22: written", says = "Returns a character of the written text, which is empty at first.")
    static void nothingIsWrittenAtFirst() {
        PipelineSimulator x = reading("d3");
        due("the first index", x.written(0), NONE);
        x.write();
        due("the first index", x.written(0), 'd');
    }

    @Holds(at = "Promise 22: written", says = "NONE if there is no such index")
    static void theFirstAndTheLastIndex() {
        PipelineSimulator x = reading("m(-99,-99)3|m(-99,-99)3|m(-99,-99)3|m(-99,-99)3$3");
        x.write();
        due("below the first", x.written(-1), NONE);
        due("first", x.written(0), 'm');
        due("last", x.written(48), '3');
        due("behind the last", x.written(49), NONE);
        for (int far : FAR) {
            due("written(" + far + ")", x.written(far), NONE);
        }
    }

    @Holds(at = "Promise 23: clear", says = "Returns the number of records removed.")
    static void anEmptyAndAFullInputAreCleared() {
        PipelineSimulator x = new PipelineSimulator();
        due("empty", x.clear(), 0);
        pushMany(x, 3, 1, 60);
        x.tick(3);
        due("full", x.clear(), 60);
        due("records", x.count(1), 0);
        due("empty again", x.clear(), 0);
        due("quiet", x.isQuiet(), 1);
        due("there is room", x.push(3, 7), 1);
        x.tick(200);
        dueState(x, 1, 3, 7, 1);
        duePlain(x, 3, 7, 1);
    }

    @Holds(at = "Promise 23: clear", says = "begins the simulation anew with the same pipeline")
    static void aClearedSimulationIsEmpty() {
        PipelineSimulator x = with("c(1)2|d", 1, 1, 2, 5);
        pushAll(x, 3, 1, 2, 3);
        x.tick(200);
        completeCheckpoint(x);
        x.fail();
        pushAll(x, 3, 4, 5);
        x.tick(2);
        x.checkpoint();
        type(x, "d|d");
        due("removed", x.clear(), 5);
        dueCounts(x, 4, 0, 0, 0, 0, 0, 0, 0, 0, 0);
        for (int operator = 0; operator <= 3; operator++) {
            for (int what = 4; what <= 7; what++) {
                due("operator(" + operator + ", " + what + ")", x.operator(operator, what), 0);
            }
            for (int what = 0; what <= 5; what++) {
                due("instance(" + operator + ", 0, " + what + ")", x.instance(operator, 0, what), 0);
            }
        }
        dueState(x, 2, 3, NONE, NONE);
        dueSaved(x, 2, 3, NONE, NONE);
        due("no latencies", x.latency(-1), NONE);
        due("settings", x.configure(1, 1, 2, 5), 1125);
        due("the first checkpoint", x.checkpoint(), 1);
        due("nothing is in checkpoint 0", x.fail() + x.count(2) + x.instance(0, 0, 4), 0);
        dueText(x, "c(1)2|d");
        due("the text stays", x.append('|', 1), 4);
    }

    @Holds(at = "Promise 23: clear", says = "begins the simulation anew with the same pipeline")
    static void clearingEmptiesBlockedAndWaitingInstances() {
        PipelineSimulator x = aligning();
        due("removed", x.clear(), 1);
        dueCounts(x, 4, 0, 0, 0, 0, 0, 0, 0, 0, 0);
        due("stopped", x.instance(3, 0, 2), 0);
        due("pointer", x.instance(3, 0, 3), 0);
        due("keys", x.instance(2, 1, 5), 0);
        PipelineSimulator y = blockedSource(6);
        y.checkpoint();
        due("blocked", y.operator(0, 6), 1);
        due("removed", y.clear(), 6);
        due("not blocked", y.operator(0, 6), 0);
        due("no barrier is held", y.instance(0, 0, 1), 0);
        due("quiet", y.isQuiet(), 1);
    }

    @Holds(at = "Promise 23: clear", says = "begins the simulation anew with the same pipeline")
    static void nothingIsLeftOfLatenciesAndPlainResults() {
        PipelineSimulator x = threeLatencies();
        due("sum", x.latency(-2), 2 + 3 + 4);
        duePlain(x, 3, 1 + 2 + 3, 3);
        x.clear();
        x.configure(1, 9, 4, 5);
        x.push(3, 5);
        x.tick(200);
        due("number", x.latency(-1), 3);
        due("sum", x.latency(-2), 2 + 2 + 2);
        due("least", x.latency(0), 2);
        due("greatest", x.latency(100), 2);
        duePlain(x, 3, 5 + 6 + 7, 3);
        PipelineSimulator y = with("", 1, 9, 4, 1);
        y.push(3, 1);
        y.tick(200);
        due("a latency of one tick", y.latency(0), 1);
        y.clear();
        y.configure(2, 3, 4, 1);
        y.push(3, 1);
        y.tick(200);
        due("the short one is gone", y.latency(0), 3);
    }

    @Holds(at = "Promise 23: clear", says = "begins the simulation anew with the same pipeline")
    static void aRescaledOperatorKeepsItsInstances() {
        PipelineSimulator x = reading("d|d3$2");
        x.rescale(1, 3);
        x.rescale(2, 1);
        x.clear();
        dueText(x, "d3|d$2");
        due("failures", x.count(6), 0);
    }
}
