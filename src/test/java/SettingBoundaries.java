/** Boundaries of the promises 1 to 10: the calls that change something. */
final class SettingBoundaries extends Calls {
    private SettingBoundaries() {
    }

    @Holds(at = "Promise 1: A new object", says = "the batch size 2")
    static void theFirstBatchSizeIsTwo() {
        PipelineSimulator one = new PipelineSimulator();
        one.push(3, 1);
        one.tick(1);
        due("one record is an open batch", one.channel(0, 0, 0, 1), 1);
        PipelineSimulator two = new PipelineSimulator();
        pushAll(two, 3, 1, 2);
        two.tick(1);
        due("two records are a batch of the queue", two.channel(0, 0, 0, 0), 1);
        due("none is open", two.channel(0, 0, 0, 1), 0);
    }

    @Holds(at = "Promise 1: A new object", says = "the greatest age 3")
    static void theFirstGreatestAgeIsThree() {
        PipelineSimulator x = new PipelineSimulator();
        x.push(3, 1);
        x.tick(3);
        due("age", x.channel(0, 0, 0, 3), 2);
        due("still open", x.channel(0, 0, 0, 1), 1);
        x.tick(1);
        due("closed, and taken", x.count(9), 1);
    }

    @Holds(at = "Promise 1: A new object", says = "2 credits")
    static void theFirstCreditsAreTwo() {
        PipelineSimulator x = new PipelineSimulator();
        due("credits", x.channel(0, 0, 0, 4), 2);
        pushAll(x, 3, 1, 2);
        x.tick(1);
        due("credits", x.channel(0, 0, 0, 4), 1);
    }

    @Holds(at = "Promise 1: A new object", says = "the rate 2")
    static void theFirstRateIsTwo() {
        PipelineSimulator x = new PipelineSimulator();
        pushAll(x, 3, 1, 2, 3);
        x.tick(1);
        due("offset", x.count(2), 2);
        due("settings", x.configure(1, 1, 2, 1), BEGUN);
        due("settings", new PipelineSimulator().configure(1, 1, 2, 1), 2322);
    }

    @Holds(at = "Promise 1: A new object", says = "and an empty input")
    static void theFirstInputIsEmpty() {
        PipelineSimulator x = new PipelineSimulator();
        dueCounts(x, 2, 0, 0, 0, 0, 0, 0, 0, 0, 0);
        due("quiet", x.isQuiet(), 1);
        due("no tick", x.tick(200), 0);
        due("the first record", x.push(3, 1), 1);
        due("the first character", x.append('d', 1), 1);
    }

    @Holds(at = "Promise 2: append", says = "`code`: the character, 0 to 127")
    static void aCodeIsNotBelowZero() {
        PipelineSimulator x = new PipelineSimulator();
        due("least", x.append(0, 1), 1);
        due("too small", x.append(-1, 1), BAD);
        due("far too small", x.append(Integer.MIN_VALUE, 1), BAD);
    }

    @Holds(at = "Promise 2: append", says = "`code`: the character, 0 to 127")
    static void aCodeIsNotAbove127() {
        PipelineSimulator x = new PipelineSimulator();
        due("greatest", x.append(127, 1), 1);
        due("too large", x.append(128, 1), BAD);
        due("a letter above 65535", x.append(65536 + 'd', 1), BAD);
        due("far too large", x.append(Integer.MAX_VALUE, 1), BAD);
    }

    @Holds(at = "Promise 2: append", says = "`count`: how many times, 1 to 60")
    static void aCountIsNotBelowOne() {
        PipelineSimulator x = new PipelineSimulator();
        due("least", x.append('d', 1), 1);
        due("too small", x.append('d', 0), BAD);
        due("below zero", x.append('d', -1), BAD);
        due("far too small", x.append('d', Integer.MIN_VALUE), BAD);
    }

    @Holds(at = "Promise 2: append", says = "`count`: how many times, 1 to 60")
    static void aCountIsNotAboveSixty() {
        due("greatest", new PipelineSimulator().append('d', 60), 60);
        due("too large", new PipelineSimulator().append('d', 61), BAD);
        PipelineSimulator x = new PipelineSimulator();
        x.append('d', 1);
        due("far too large", x.append('d', Integer.MAX_VALUE), BAD);
    }

    @Holds(at = "Promise 2: append", says = "FULL if the text would have more than 60 characters")
    static void aTextIsFullWithSixtyCharacters() {
        PipelineSimulator x = new PipelineSimulator();
        due("length", x.append('d', 58), 58);
        due("61 would be too many", x.append('d', 3), FULL);
        due("60 are not", x.append('d', 2), 60);
        due("one more", x.append('d', 1), FULL);
        due("60 more", x.append('d', 60), FULL);
        x.readPipeline();
        due("an empty text has room for 60", x.append('d', 60), 60);
    }

    @Holds(at = "Promise 3: readPipeline", says = "Reads the text as a pipeline, which replaces the present one.")
    static void aShorterPipelineReplacesALongerOne() {
        PipelineSimulator x = with("m(5,6)2|k(7,8)3|f(2,-9)2|s(4)3$3", 1, 1, 2, 5);
        pushAll(x, 3, 1, 2, 3, 4, 5);
        x.tick(3);
        x.checkpoint();
        duePlain(x, 13, 11 + 16 + 21 + 26, 1);
        due("one stage", read(x, "d"), 1);
        int[][] operators = {{7, 1, 0, 0}, {5, 1, 0, 0}, {8, 1, 0, 0}};
        for (int operator = 0; operator <= 2; operator++) {
            for (int what = 0; what <= 7; what++) {
                due("operator(" + operator + ", " + what + ")", x.operator(operator, what), what < 4 ? operators[operator][what] : 0);
            }
            due("no second instance", x.instance(operator, 1, 0), NONE);
        }
        due("no operator 3", x.operator(3, 0), NONE);
        due("no records on the way", x.count(7) + x.count(8), 0);
        x.tick(200);
        dueState(x, 2, 3, 15, 5);
        due("quiet", x.isQuiet(), 1);
        // the plain results of the same offset are those of the pipeline that is there
        duePlain(x, 3, 15, 5);
        read(x, "c(2)");
        x.tick(200);
        duePlain(x, 3, 15 + 20, 10);
    }

    @Holds(at = "Promise 3: readPipeline", says = "Reads the text as a pipeline, which replaces the present one.")
    static void aLongerPipelineReplacesAShorterOne() {
        PipelineSimulator x = quiet("$3", 3, 1, 2);
        due("four stages", read(x, "s(2)|d|r|c(2)"), 4);
        due("what was the sink has no state", x.state(1, 3, 0), NONE);
        due("the sink has one instance", x.operator(5, 1), 1);
        x.tick(200);
        dueState(x, 5, 3, 3 + 4, 2);
    }

    @Holds(at = "Promise 3: readPipeline", says = "there are no ticks, checkpoints, failures and records processed")
    static void afterReadingTheSimulationIsEmpty() {
        PipelineSimulator x = with("c(1)2", 1, 1, 2, 5);
        pushAll(x, 3, 1, 2);
        x.tick(200);
        completeCheckpoint(x);
        x.fail();
        x.tick(200);
        x.checkpoint();
        read(x, "c(1)2");
        dueCounts(x, 3, 2, 0, 0, 0, 0, 0, 0, 0, 0);
        for (int operator = 0; operator <= 2; operator++) {
            for (int what = 4; what <= 7; what++) {
                due("operator(" + operator + ", " + what + ")", x.operator(operator, what), 0);
            }
        }
        for (int what = 0; what <= 5; what++) {
            due("instance(0, 0, " + what + ")", x.instance(0, 0, what), 0);
        }
        due("no counter in checkpoint 0", x.fail() + x.instance(0, 0, 4) + x.count(2), 0);
        dueSaved(x, 2, 3, NONE, NONE);
        due("no latencies", x.latency(-1), NONE);
        duePlain(x, 3, NONE, NONE);
        due("the first checkpoint", x.checkpoint(), 1);
    }

    @Holds(at = "Promise 3: readPipeline", says = "The simulation begins anew")
    static void readingEmptiesBlockedAndWaitingInstances() {
        PipelineSimulator x = aligning();
        read(x, "c(3)|s(5)2");
        dueCounts(x, 4, 1, 0, 0, 0, 0, 0, 0, 0, 0);
        due("stopped", x.instance(3, 0, 2), 0);
        due("pointer", x.instance(3, 0, 3), 0);
        x.tick(200);
        dueState(x, 2, 7, 6, 3);
        PipelineSimulator y = blockedSource(6);
        y.checkpoint();
        due("blocked", y.operator(0, 6), 1);
        y.readPipeline();
        due("not blocked", y.operator(0, 6), 0);
        dueCounts(y, 2, 6, 0, 0, 0, 0, 0, 0, 0, 0);
        due("no barrier is held", y.instance(0, 0, 1), 0);
        y.tick(200);
        dueState(y, 1, 3, 21, 6);
    }

    @Holds(at = "Promise 3: readPipeline", says = "The input and the settings stay; the text is empty afterwards, also after an error.")
    static void theInputAndTheSettingsStayAndTheTextIsEmpty() {
        PipelineSimulator x = with("", 4, 9, 4, 5);
        pushMany(x, 3, 1, 60);
        x.tick(1);
        due("reading", read(x, "d"), 1);
        due("the empty text", x.readPipeline(), 0);
        due("the input is still full", x.push(3, 1), FULL);
        due("settings", x.configure(2, 3, 2, 2), 4945);
        due("error", read(x, "dd"), -2001);
        due("the empty text", x.readPipeline(), 0);
    }

    @Holds(at = "Promise 3: readPipeline", says = "-2000 minus the error offset if the text has a syntax error")
    static void theLeastAndTheGreatestErrorOffset() {
        due("at the first character", read(new PipelineSimulator(), "x"), -2000);
        due("behind the longest pipeline", read(new PipelineSimulator(), "m(-99,-99)3|m(-99,-99)3|m(-99,-99)3|m(-99,-99)3$3x"), -2049);
    }

    private static void dueSettings(int size, int age, int credits, int rate, boolean good) {
        PipelineSimulator x = new PipelineSimulator();
        due("configure" + size + "," + age + "," + credits + "," + rate, x.configure(size, age, credits, rate), good ? 2322 : BAD);
        int digits = size * 1000 + age * 100 + credits * 10 + rate;
        due("the settings afterwards", x.configure(1, 1, 2, 1), good ? digits : 2322);
    }

    @Holds(at = "Promise 4: configure", says = "`size`: the batch size, 1 to 4")
    static void theLeastAndTheGreatestBatchSize() {
        dueSettings(0, 1, 2, 1, false);
        dueSettings(1, 1, 2, 1, true);
        dueSettings(4, 1, 2, 1, true);
        dueSettings(5, 1, 2, 1, false);
        dueSettings(-1, 1, 2, 1, false);
        dueSettings(Integer.MAX_VALUE, 1, 2, 1, false);
    }

    @Holds(at = "Promise 4: configure", says = "`age`: the greatest age, 1 to 9")
    static void theLeastAndTheGreatestAge() {
        dueSettings(1, 0, 2, 1, false);
        dueSettings(1, 1, 2, 1, true);
        dueSettings(1, 9, 2, 1, true);
        dueSettings(1, 10, 2, 1, false);
        dueSettings(1, -1, 2, 1, false);
        dueSettings(1, Integer.MAX_VALUE, 2, 1, false);
    }

    @Holds(at = "Promise 4: configure", says = "`credits`: the number of credits, 2 to 4")
    static void theLeastAndTheGreatestCredits() {
        dueSettings(1, 1, 1, 1, false);
        dueSettings(1, 1, 2, 1, true);
        dueSettings(1, 1, 4, 1, true);
        dueSettings(1, 1, 5, 1, false);
        dueSettings(1, 1, 0, 1, false);
        dueSettings(1, 1, -1, 1, false);
        dueSettings(1, 1, Integer.MAX_VALUE, 1, false);
    }

    @Holds(at = "Promise 4: configure", says = "`rate`: the rate, 1 to 5")
    static void theLeastAndTheGreatestRate() {
        dueSettings(1, 1, 2, 0, false);
        dueSettings(1, 1, 2, 1, true);
        dueSettings(1, 1, 2, 5, true);
        dueSettings(1, 1, 2, 6, false);
        dueSettings(1, 1, 2, -1, false);
        dueSettings(1, 1, 2, Integer.MAX_VALUE, false);
    }

    @Holds(at = "Promise 4: configure", says = "BAD_ARGUMENT if an argument is out of range; BEGUN.")
    static void oneTickOrOneCheckpointIsABeginning() {
        PipelineSimulator x = new PipelineSimulator();
        due("nothing has happened", x.configure(1, 1, 2, 1), 2322);
        x.push(3, 1);
        x.explain(0, 0);
        due("a record is no beginning", x.configure(2, 3, 2, 2), 1121);
        x.tick(1);
        due("one tick", x.configure(1, 1, 2, 1), BEGUN);
        x.clear();
        due("a new simulation", x.configure(1, 1, 2, 1), 2322);
        x.checkpoint();
        due("one checkpoint", x.configure(2, 3, 2, 2), BEGUN);
        x.fail();
        due("a discarded one", x.configure(2, 3, 2, 2), BEGUN);
        x.readPipeline();
        due("a new simulation", x.configure(2, 3, 2, 2), 1121);
    }

    @Holds(at = "Promise 5: push", says = "`key`: the key, 0 to 15")
    static void theLeastAndTheGreatestKey() {
        PipelineSimulator x = new PipelineSimulator();
        due("too small", x.push(-1, 1), BAD);
        due("too large", x.push(16, 1), BAD);
        due("far too small", x.push(Integer.MIN_VALUE, 1), BAD);
        due("far too large", x.push(Integer.MAX_VALUE, 1), BAD);
        due("least", x.push(0, 1), 1);
        due("greatest", x.push(15, 2), 2);
        x.tick(200);
        due("least", x.state(1, 0, 0), 1);
        due("greatest", x.state(1, 15, 0), 2);
    }

    @Holds(at = "Promise 5: push", says = "`value`: the value, -99 to 99")
    static void theLeastAndTheGreatestValue() {
        PipelineSimulator x = new PipelineSimulator();
        due("too small", x.push(3, -100), BAD);
        due("too large", x.push(3, 100), BAD);
        due("far too small", x.push(3, Integer.MIN_VALUE), BAD);
        due("far too large", x.push(3, Integer.MAX_VALUE), BAD);
        due("least", x.push(3, -99), 1);
        due("greatest", x.push(4, 99), 2);
        x.tick(200);
        due("least", x.state(1, 3, 0), -99);
        due("greatest", x.state(1, 4, 0), 99);
    }

    @Holds(at = "Promise 5: push", says = "FULL if there are 60 records")
    static void theSixtyFirstRecordIsRefused() {
        PipelineSimulator x = new PipelineSimulator();
        for (int i = 1; i <= 60; i++) {
            due("push", x.push(3, 1), i);
        }
        due("the 61st", x.push(3, 1), FULL);
        due("records", x.count(1), 60);
        x.tick(200);
        due("emitted ones stay in the input", x.push(3, 1), FULL);
        x.clear();
        due("a cleared input has room", x.push(3, 1), 1);
    }

    @Holds(at = "Promise 6: tick", says = "`limit`: the greatest number of ticks, 1 to 200")
    static void theLeastAndTheGreatestLimit() {
        PipelineSimulator x = with("c(3)|c(3)|c(3)|c(3)", 1, 1, 2, 1);
        pushMany(x, 3, 1, 60);
        due("too small", x.tick(0), BAD);
        due("too large", x.tick(201), BAD);
        for (int far : FAR) {
            due("tick(" + far + ")", x.tick(far), BAD);
        }
        due("least", x.tick(1), 1);
        due("greatest", x.tick(200), 200);
        due("ticks", x.count(3), 201);
    }

    @Holds(at = "Promise 6: tick", says = "Performs ticks until the pipeline is quiet, but not more than a given number.")
    static void ticksEndWithTheLimitOrWhenThePipelineIsQuiet() {
        // with the greatest age 3, a record alone is in the sink after four ticks
        int[] limits = {1, 3, 4, 5, 200};
        int[] performed = {1, 3, 4, 4, 4};
        for (int i = 0; i < limits.length; i++) {
            PipelineSimulator x = new PipelineSimulator();
            x.push(3, 1);
            due("tick(" + limits[i] + ")", x.tick(limits[i]), performed[i]);
            due("ticks", x.count(3), performed[i]);
            due("quiet", x.isQuiet(), performed[i] == 4 ? 1 : 0);
        }
    }

    @Holds(at = "Promise 6: tick", says = "this is looked at before each tick")
    static void aQuietPipelinePerformsNoTick() {
        PipelineSimulator x = new PipelineSimulator();
        due("new", x.tick(1), 0);
        due("ticks", x.count(3), 0);
        x.push(3, 1);
        x.tick(200);
        due("after all records", x.tick(1), 0);
        due("after all records", x.tick(200), 0);
        due("ticks", x.count(3), 4);
    }

    @Holds(at = "Promise 6: tick", says = "The pipeline is quiet if the offset is the number of records of the input")
    static void aRecordOfTheInputAloneIsNotQuiet() {
        PipelineSimulator x = new PipelineSimulator();
        due("empty", x.isQuiet(), 1);
        x.push(3, 1);
        due("one record", x.isQuiet(), 0);
        x.tick(200);
        due("the offset is 1", x.isQuiet(), 1);
        x.fail();
        due("the offset is 0 again", x.isQuiet(), 0);
    }

    @Holds(at = "Promise 6: tick", says = "all channels and lists are empty")
    static void aRecordOfAChannelAloneIsNotQuiet() {
        PipelineSimulator open = with("", 2, 9, 2, 5);
        open.push(3, 1);
        open.tick(1);
        due("an open batch", open.isQuiet(), 0);
        PipelineSimulator closed = with("", 1, 9, 2, 5);
        closed.push(3, 1);
        closed.tick(1);
        due("a batch of the queue", closed.isQuiet(), 0);
        closed.tick(1);
        due("taken", closed.isQuiet(), 1);
        PipelineSimulator last = with("d|d|d3|d3$3", 1, 9, 2, 5);
        last.push(7, 1);
        last.tick(5);
        due("in the channel from the last instance to the last one", last.channel(4, 2, 2, 0), 1);
        due("on the last way", last.isQuiet(), 0);
        last.tick(1);
        due("taken", last.isQuiet(), 1);
    }

    @Holds(at = "Promise 6: tick", says = "all channels and lists are empty")
    static void aRecordOfAListIsNotQuiet() {
        PipelineSimulator x = with("c(3)", 1, 9, 2, 2);
        pushAll(x, 7, 1, 2);
        x.tick(2);
        due("a list", x.count(8), 3);
        due("the input has ended", x.count(2), 2);
        due("quiet", x.isQuiet(), 0);
    }

    @Holds(at = "Promise 6: tick", says = "and no checkpoint is running")
    static void aRunningCheckpointAloneIsNotQuiet() {
        PipelineSimulator x = new PipelineSimulator();
        x.checkpoint();
        due("a held barrier", x.isQuiet(), 0);
        x.tick(1);
        due("a barrier in a channel", x.isQuiet(), 0);
        x.tick(1);
        due("complete", x.isQuiet(), 1);
        // all barriers but one are taken, none is in a channel or held
        PipelineSimulator y = with("c(1)2", 1, 9, 2, 1);
        y.checkpoint();
        y.tick(3);
        due("the last barrier", y.isQuiet(), 0);
        y.tick(1);
        due("complete", y.isQuiet(), 1);
    }

    @Holds(at = "Promise 7: isQuiet", says = "Returns 1 or 0.")
    static void quietIsOneAndNotQuietIsZero() {
        PipelineSimulator x = new PipelineSimulator();
        due("empty", x.isQuiet(), 1);
        pushMany(x, 3, 1, 60);
        due("full", x.isQuiet(), 0);
        for (int tick = 1; tick <= 31; tick++) {
            due("in the middle", x.isQuiet(), 0);
            x.tick(1);
        }
        due("all 60 are in the sink", x.count(9), 60);
        due("at the end", x.isQuiet(), 1);
    }

    @Holds(at = "Promise 8: checkpoint", says = "BUSY.")
    static void noCheckpointBeginsWhileOneRuns() {
        PipelineSimulator x = new PipelineSimulator();
        due("the first", x.checkpoint(), 1);
        due("at once", x.checkpoint(), BUSY);
        x.tick(1);
        due("before the last tick of it", x.checkpoint(), BUSY);
        x.tick(1);
        due("complete", x.checkpoint(), 2);
        x.fail();
        due("discarded", x.checkpoint(), 2);
    }

    @Holds(at = "Promise 9: fail", says = "Returns the number of the latest complete checkpoint.")
    static void aFailureWithoutACompleteCheckpointIsZero() {
        PipelineSimulator x = new PipelineSimulator();
        due("none", x.fail(), 0);
        x.checkpoint();
        due("a running one is not complete", x.fail(), 0);
        x.checkpoint();
        x.tick(1);
        due("nor before its last tick", x.fail(), 0);
        completeCheckpoint(x);
        due("complete", x.fail(), 1);
        due("once more", x.fail(), 1);
        due("failures", x.count(6), 5);
    }

    @Holds(at = "Promise 10: rescale", says = "`operator`: the operator, but not the source")
    static void theFirstAndTheLastOperatorToRescale() {
        PipelineSimulator x = reading("d|d|d|d");
        due("below the source", x.rescale(-1, 2), NONE);
        due("the source", x.rescale(0, 2), NONE);
        due("the source to one", x.rescale(0, 1), NONE);
        due("behind the sink", x.rescale(6, 2), NONE);
        due("far too small", x.rescale(Integer.MIN_VALUE, 2), NONE);
        due("far too large", x.rescale(Integer.MAX_VALUE, 2), NONE);
        due("failures", x.count(6), 0);
        due("the first stage", x.rescale(1, 2), 0);
        due("the sink", x.rescale(5, 3), 0);
        dueText(x, "d2|d|d|d$3");
        due("failures", x.count(6), 2);
    }

    @Holds(at = "Promise 10: rescale", says = "`instances`: the new number of instances, 1 to 3")
    static void theLeastAndTheGreatestNumberOfInstances() {
        PipelineSimulator x = reading("d2");
        due("too small", x.rescale(1, 0), BAD);
        due("too large", x.rescale(1, 4), BAD);
        for (int far : FAR) {
            due("rescale(1, " + far + ")", x.rescale(1, far), BAD);
        }
        due("instances", x.operator(1, 1), 2);
        due("failures", x.count(6), 0);
        due("least", x.rescale(1, 1), 0);
        due("instances", x.operator(1, 1), 1);
        due("no second one", x.instance(1, 1, 0), NONE);
        due("greatest", x.rescale(1, 3), 0);
        due("instances", x.operator(1, 1), 3);
        due("the third one", x.instance(1, 2, 0), 0);
    }

    /** The number of keys that move from one number of instances to another, when each key has a saved state. */
    private static void dueMoved(int from, int to, int moved) {
        PipelineSimulator x = with("d" + from, 4, 1, 4, 5);
        for (int key = 0; key < 16; key++) {
            x.push(key, 1);
        }
        x.tick(200);
        completeCheckpoint(x);
        due("from " + from + " to " + to, x.rescale(1, to), moved);
    }

    @Holds(at = "Promise 10: rescale", says = "the number of keys of the operator that have a state after the failure and go to another instance than before")
    static void keysThatStayAreNotCounted() {
        dueMoved(1, 1, 0);
        dueMoved(1, 2, 8);
        dueMoved(1, 3, 10);
        dueMoved(2, 1, 8);
        dueMoved(2, 2, 0);
        dueMoved(2, 3, 6);
        dueMoved(3, 1, 10);
        dueMoved(3, 2, 6);
        dueMoved(3, 3, 0);
    }

    @Holds(at = "Promise 10: rescale", says = "the number of keys of the operator that have a state after the failure and go to another instance than before")
    static void onlyStatesAfterTheFailureAreCounted() {
        PipelineSimulator x = quiet("s(2)", 7, 1);
        due("the state is lost in the failure", x.rescale(1, 3), 0);
        x.tick(200);
        completeCheckpoint(x);
        x.push(7, 2);
        x.tick(200);
        dueState(x, 1, 7, NONE, NONE);
        due("the state is back after the failure", x.rescale(1, 2), 1);
        due("an operator without keys", quiet("c(1)2", 7, 1).rescale(1, 3), 0);
    }

    @Holds(at = "Promise 10: rescale", says = "This counts as a failure.")
    static void rescalingToTheSameNumberIsAFailure() {
        PipelineSimulator x = quiet("d2", 7, 1);
        due("no key moves", x.rescale(1, 2), 0);
        due("failures", x.count(6), 1);
        due("offset", x.count(2), 0);
        dueState(x, 1, 7, NONE, NONE);
    }
}
