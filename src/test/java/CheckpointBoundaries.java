/** Boundaries of Checkpoints, Failures, Rescaling, Latencies, Plain results and Explanations. */
final class CheckpointBoundaries extends Calls {
    private CheckpointBoundaries() {
    }

    @Holds(at = "Checkpoints", says = "Checkpoints are numbered from 1.")
    static void theFirstCheckpointHasTheNumberOne() {
        PipelineSimulator x = new PipelineSimulator();
        due("the first", x.checkpoint(), 1);
        due("it runs", x.count(5), 1);
        x.tick(200);
        due("it is complete", x.count(4), 1);
        due("the second", x.checkpoint(), 2);
    }

    @Holds(at = "Checkpoints", says = "A checkpoint begins with its barrier being held by the source, whose state, the offset and the counter, is saved then.")
    static void theSourceSavesTheOffsetBeforeItsFirstRecord() {
        PipelineSimulator x = with("c(1)", 1, 1, 2, 5);
        pushAll(x, 3, 1, 2);
        x.checkpoint();
        due("held at once", x.instance(0, 0, 1), 1);
        x.tick(200);
        due("offset", x.count(2), 2);
        due("counter", x.instance(0, 0, 4), 2);
        due("back to checkpoint 1", x.fail(), 1);
        due("offset", x.count(2), 0);
        due("counter", x.instance(0, 0, 4), 0);
        dueState(x, 2, 3, NONE, NONE);
    }

    @Holds(at = "Checkpoints", says = "A checkpoint begins with its barrier being held by the source, whose state, the offset and the counter, is saved then.")
    static void theSourceSavesTheOffsetOfTheMomentAndNotALaterOne() {
        PipelineSimulator x = with("c(1)2", 1, 1, 2, 1);
        pushAll(x, 3, 1, 2, 3, 4, 5);
        x.tick(2);
        x.checkpoint();
        x.tick(200);
        due("offset", x.count(2), 5);
        x.fail();
        due("offset", x.count(2), 2);
        due("counter", x.instance(0, 0, 4), 2);
        dueState(x, 2, 3, 1 + 2, 2);
    }

    @Holds(at = "Checkpoints", says = "When an instance takes a barrier from a channel, this channel is stopped.")
    static void eachBarrierStopsItsChannel() {
        PipelineSimulator x = with("c(1)3", 1, 9, 2, 1);
        x.checkpoint();
        x.tick(2);
        int[] stopped = {0, 1, 3, 0};
        int[] pointers = {0, 1, 2, 0};
        for (int taken = 0; taken <= 3; taken++) {
            due("stopped after " + taken, x.instance(2, 0, 2), stopped[taken]);
            due("pointer after " + taken, x.instance(2, 0, 3), pointers[taken]);
            due("complete after " + taken, x.count(4), taken < 3 ? 0 : 1);
            x.tick(1);
        }
    }

    @Holds(at = "Checkpoints", says = "When all of its input channels are stopped, none is stopped any more")
    static void theOnlyInputChannelIsNotLeftStopped() {
        PipelineSimulator x = with("d", 1, 9, 2, 1);
        x.checkpoint();
        x.push(3, 5);
        x.tick(1);
        due("the barrier, and the record behind it", x.channel(0, 0, 0, 0), 2);
        x.tick(1);
        due("taken", x.channel(0, 0, 0, 0), 1);
        due("not stopped", x.instance(1, 0, 2), 0);
        due("nor held", x.instance(1, 0, 1), 0);
        x.tick(1);
        dueState(x, 1, 3, 5, 0);
        dueSaved(x, 1, 3, NONE, NONE);
    }

    @Holds(at = "Checkpoints", says = "When all of its input channels are stopped, none is stopped any more")
    static void nothingIsSavedBeforeTheLastInputChannelIsStopped() {
        PipelineSimulator x = aligning();
        due("one is stopped", x.instance(3, 0, 2), 1);
        dueState(x, 3, 7, NONE, NONE);
        x.push(7, 40);
        x.tick(1);
        due("one is stopped", x.instance(3, 0, 2), 1);
        x.tick(200);
        due("none is stopped", x.instance(3, 0, 2), 0);
        // the copies of 1 came before the barrier, those of 40 behind it
        dueSaved(x, 2, 7, 1 + 2 + 3, 3);
        due("sums of five", x.state(3, 7, 0), 1 + 2 + 3 + 40 + 41);
        dueSaved(x, 3, 7, NONE, NONE);
    }

    @Holds(at = "Checkpoints", says = "When all of its input channels are stopped, none is stopped any more, the state of the instance")
    static void whatComesBetweenTheFirstAndTheLastBarrierIsSaved() {
        PipelineSimulator x = delayedBarrier();
        due("the first barrier has come", x.instance(3, 0, 2), 1);
        dueState(x, 3, 7, 1, 1);
        x.tick(2);
        due("the last one has not", x.instance(3, 0, 2), 1);
        dueState(x, 3, 7, 1 + 2 + 3, 3);
        x.tick(200);
        due("complete", x.count(4), 1);
        dueState(x, 3, 0, 50 + 51 + 52, 3);
        dueSaved(x, 3, 0, NONE, NONE);
        dueSaved(x, 3, 7, 1 + 2 + 3, 3);
    }

    @Holds(at = "Checkpoints", says = "the state of the instance, which consists of its states for keys and its counter, is saved")
    static void anInstanceSavesItsOwnKeysAndNoOthers() {
        // instance 0 has processed what is behind its barrier when instance 1 saves
        PipelineSimulator x = delayedBarrier();
        dueState(x, 2, 0, 50, 0);
        due("instance 1 has not saved", x.channel(1, 0, 1, 0), 1);
        x.tick(200);
        due("complete", x.count(4), 1);
        dueSaved(x, 2, 0, NONE, NONE);
        dueSaved(x, 2, 7, 3, 0);
        // and the other way round
        PipelineSimulator y = with("c(3)|d2", 1, 9, 4, 1);
        pushAll(y, 0, 1);
        y.tick(1);
        y.checkpoint();
        pushAll(y, 7, 50);
        y.tick(200);
        dueSaved(y, 2, 0, 3, 0);
        dueSaved(y, 2, 7, NONE, NONE);
        dueState(y, 2, 7, 52, 0);
    }

    @Holds(at = "Checkpoints", says = "the state of the instance, which consists of its states for keys and its counter, is saved")
    static void anInstanceSavesItsCounterBeforeWhatIsBehindTheBarrier() {
        PipelineSimulator x = with("c(3)|c(1)2", 1, 9, 4, 5);
        pushAll(x, 7, 1);
        x.tick(1);
        x.checkpoint();
        pushAll(x, 7, 2, 3);
        x.tick(200);
        due("counter", x.instance(1, 0, 4), 9);
        x.fail();
        due("counter as it was", x.instance(1, 0, 4), 3);
        due("counter of the source", x.instance(0, 0, 4), 1);
    }

    @Holds(at = "Checkpoints", says = "and it holds the barrier, unless it is an instance of the sink")
    static void aStageHoldsTheBarrierAndTheSinkDoesNot() {
        PipelineSimulator x = with("c(3)", 1, 9, 2, 1);
        x.push(7, 1);
        x.tick(1);
        x.checkpoint();
        x.tick(2);
        due("the stage", x.instance(1, 0, 1), 1);
        x.tick(200);
        due("complete", x.count(4), 1);
        due("the sink", x.instance(2, 0, 1), 0);
    }

    @Holds(at = "Checkpoints", says = "The list of an instance is empty when it takes an item")
    static void nothingIsTakenWhileOneRecordIsLeftInTheList() {
        PipelineSimulator x = with("c(3)", 1, 9, 2, 2);
        pushAll(x, 7, 1, 2);
        x.tick(2);
        x.checkpoint();
        x.tick(1);
        due("one is left", x.instance(1, 0, 0), 1);
        due("the barrier is not taken", x.channel(0, 0, 0, 0), 1);
        x.tick(1);
        due("none is left", x.instance(1, 0, 0), 0);
        due("the barrier is taken", x.channel(0, 0, 0, 0), 0);
    }

    @Holds(at = "Checkpoints", says = "The checkpoint is complete when all instances of the sink have saved their states.")
    static void theCheckpointWaitsForTheLastInstanceOfTheSink() {
        PipelineSimulator x = with("c(3)$3", 1, 9, 4, 1);
        x.push(7, 1);
        x.tick(1);
        x.checkpoint();
        // the instances 0 and 1 of the sink take their barriers in the third tick from here, the instance 2 in the fifth
        x.tick(4);
        due("the first two have taken them", x.channel(1, 0, 0, 0) + x.channel(1, 0, 1, 0), 0);
        due("the third one has not", x.channel(1, 0, 2, 0), 1);
        due("not complete", x.count(4), 0);
        due("running", x.count(5), 1);
        dueSaved(x, 2, 7, NONE, NONE);
        x.tick(1);
        due("complete", x.count(4), 1);
        due("none runs", x.count(5), 0);
        dueSaved(x, 2, 7, 6, 3);
    }

    @Holds(at = "Checkpoints", says = "The next one can begin then.")
    static void theNextCheckpointBeginsWhenTheOneBeforeIsComplete() {
        PipelineSimulator x = new PipelineSimulator();
        x.checkpoint();
        x.tick(1);
        due("running", x.checkpoint(), BUSY);
        x.tick(1);
        due("complete", x.checkpoint(), 2);
    }

    @Holds(at = "Checkpoints", says = "Checkpoint 0 is the beginning: no states, the offset 0 and the counters 0.")
    static void checkpointZeroIsEmpty() {
        PipelineSimulator x = with("m(1,0)2|c(2)", 1, 1, 4, 5);
        pushAll(x, 3, 1, 2, 3);
        x.tick(200);
        dueSaved(x, 3, 3, NONE, NONE);
        due("offset", x.count(2), 3);
        due("counter of the source", x.instance(0, 0, 4), 3);
        due("counter of a stage", x.instance(1, 0, 4), 2);
        due("back to checkpoint 0", x.fail(), 0);
        dueState(x, 3, 3, NONE, NONE);
        due("offset", x.count(2), 0);
        due("counter of the source", x.instance(0, 0, 4), 0);
        due("counter of a stage", x.instance(1, 0, 4), 0);
    }

    @Holds(at = "Failures", says = "A failure discards a running checkpoint and empties all channels and lists")
    static void aCheckpointThatHasJustBegunIsDiscarded() {
        PipelineSimulator x = new PipelineSimulator();
        x.checkpoint();
        x.fail();
        due("none runs", x.count(5), 0);
        due("none is complete", x.count(4), 0);
        due("quiet", x.isQuiet(), 1);
        due("not held", x.instance(0, 0, 1), 0);
        x.push(1, 1);
        x.tick(200);
        due("no barrier was left", x.count(4), 0);
    }

    @Holds(at = "Failures", says = "A failure discards a running checkpoint and empties all channels and lists")
    static void aCheckpointThatIsAlmostCompleteIsDiscarded() {
        PipelineSimulator x = with("$2", 1, 9, 4, 1);
        pushAll(x, 7, 1);
        x.checkpoint();
        x.tick(1);
        x.fail();
        x.tick(200);
        dueSaved(x, 1, 7, NONE, NONE);
        due("none is complete", x.count(4), 0);
        PipelineSimulator y = with("c(3)$3", 1, 9, 4, 1);
        y.push(7, 1);
        y.tick(1);
        y.checkpoint();
        y.tick(4);
        due("two of three have saved", y.fail(), 0);
        y.tick(200);
        dueSaved(y, 2, 7, NONE, NONE);
        due("the next one needs all three again", y.checkpoint(), 1);
        y.tick(2);
        due("not complete", y.count(4), 0);
        y.tick(1);
        due("complete", y.count(4), 1);
        dueSaved(y, 2, 7, 6, 3);
    }

    @Holds(at = "Failures", says = "A failure discards a running checkpoint and empties all channels and lists")
    static void fullChannelsAndListsAreEmptied() {
        PipelineSimulator x = blockedSource(6);
        due("channels", x.count(7), 3);
        due("lists", x.count(8), 1);
        x.fail();
        due("channels", x.count(7), 0);
        due("lists", x.count(8), 0);
        for (int what = 0; what <= 3; what++) {
            due("channel(0, 0, 0, " + what + ")", x.channel(0, 0, 0, what), 0);
        }
        due("free credits", x.channel(0, 0, 0, 4), 2);
        x.tick(1);
        due("it goes on as at first", x.channel(0, 0, 0, 2), 3);
        x.tick(200);
        dueState(x, 1, 3, 21, 6);
    }

    @Holds(at = "Failures", says = "A failure discards a running checkpoint and empties all channels and lists")
    static void anOpenBatchIsEmptied() {
        PipelineSimulator x = with("", 2, 9, 2, 1);
        x.push(3, 5);
        x.tick(4);
        due("age", x.channel(0, 0, 0, 3), 3);
        x.fail();
        due("no open batch", x.channel(0, 0, 0, 1), 0);
        due("no age", x.channel(0, 0, 0, 3), 0);
        x.tick(1);
        due("a new one", x.channel(0, 0, 0, 1), 1);
        due("its age", x.channel(0, 0, 0, 3), 0);
    }

    @Holds(at = "Failures", says = "no channel is stopped, no barrier is held, and all pointers are 0")
    static void nothingIsStoppedAfterAFailure() {
        PipelineSimulator x = aligning();
        due("stopped", x.instance(3, 0, 2), 1);
        due("pointer", x.instance(3, 0, 3), 1);
        x.fail();
        due("stopped", x.instance(3, 0, 2), 0);
        due("pointer", x.instance(3, 0, 3), 0);
    }

    @Holds(at = "Failures", says = "no channel is stopped, no barrier is held, and all pointers are 0")
    static void noBarrierIsHeldAfterAFailure() {
        PipelineSimulator x = with("c(3)", 1, 9, 2, 1);
        x.push(7, 1);
        x.tick(1);
        x.checkpoint();
        x.tick(2);
        due("held", x.instance(1, 0, 1), 1);
        x.fail();
        due("held", x.instance(1, 0, 1), 0);
        x.checkpoint();
        x.fail();
        due("held by the source", x.instance(0, 0, 1), 0);
    }

    @Holds(at = "Failures", says = "All states are those of the latest complete checkpoint.")
    static void theStatesAreThoseOfTheLatestOfTwoCheckpoints() {
        PipelineSimulator x = with("s(5)2", 1, 1, 4, 5);
        pushAll(x, 3, 1);
        x.tick(200);
        completeCheckpoint(x);
        pushAll(x, 3, 2);
        x.tick(200);
        completeCheckpoint(x);
        pushAll(x, 3, 4, 8, 16, 32);
        x.tick(200);
        dueState(x, 1, 3, 32, 1);
        due("back to checkpoint 2", x.fail(), 2);
        dueState(x, 1, 3, 3, 2);
        dueState(x, 2, 3, NONE, NONE);
        due("offset", x.count(2), 2);
        x.tick(200);
        dueState(x, 1, 3, 32, 1);
        dueState(x, 2, 3, 31, 1);
    }

    @Holds(at = "Failures", says = "All states are those of the latest complete checkpoint.")
    static void aKeyThatWasRemovedHasItsStateAgain() {
        PipelineSimulator x = with("s(2)", 1, 1, 4, 5);
        pushAll(x, 3, 1);
        x.tick(200);
        completeCheckpoint(x);
        pushAll(x, 3, 2);
        x.tick(200);
        dueState(x, 1, 3, NONE, NONE);
        x.fail();
        dueState(x, 1, 3, 1, 1);
        due("keys", x.instance(1, 0, 5), 1);
    }

    @Holds(at = "Failures", says = "All states are those of the latest complete checkpoint.")
    static void aSecondFailureLeadsToTheSameStates() {
        PipelineSimulator x = with("r", 1, 1, 4, 5);
        pushAll(x, 3, 5);
        x.tick(200);
        completeCheckpoint(x);
        pushAll(x, 3, 9);
        for (int i = 1; i <= 3; i++) {
            x.tick(200);
            dueState(x, 1, 3, 9, 0);
            due("back to checkpoint 1", x.fail(), 1);
            dueState(x, 1, 3, 5, 0);
            dueSaved(x, 1, 3, 5, 0);
            due("failures", x.count(6), i);
        }
    }

    @Holds(at = "Failures", says = "Numbers of checkpoints that were discarded are used again.")
    static void aDiscardedNumberIsUsedAgain() {
        PipelineSimulator x = new PipelineSimulator();
        for (int i = 0; i < 3; i++) {
            due("the first", x.checkpoint(), 1);
            x.fail();
        }
        due("the first", x.checkpoint(), 1);
        x.tick(200);
        due("the second", x.checkpoint(), 2);
        due("discarded", x.fail(), 1);
        due("the second", x.checkpoint(), 2);
    }

    @Holds(at = "Failures", says = "Records that were appended to the input stay.")
    static void aFullInputIsStillFullAfterAFailure() {
        PipelineSimulator x = with("", 4, 1, 4, 5);
        pushMany(x, 3, 1, 60);
        x.tick(3);
        x.fail();
        due("records", x.count(1), 60);
        due("full", x.push(3, 1), FULL);
        x.tick(200);
        dueState(x, 1, 3, 60, 60);
    }

    private static PipelineSimulator allKeys(String text) {
        PipelineSimulator x = with(text, 4, 1, 4, 5);
        for (int key = 0; key < 16; key++) {
            x.push(key, key + 1);
        }
        x.tick(200);
        return x;
    }

    private static void dueKeys(PipelineSimulator x, int operator, int... keys) {
        for (int i = 0; i < keys.length; i++) {
            due("keys of instance " + i, x.instance(operator, i, 5), keys[i]);
        }
        due("no more instances", x.instance(operator, keys.length, 5), NONE);
    }

    @Holds(at = "Rescaling", says = "the states of its keys belong to the instances to which the keys go now, also in the saved checkpoint")
    static void theKeysGoToOneInstanceAndToThree() {
        PipelineSimulator x = allKeys("d2");
        completeCheckpoint(x);
        dueKeys(x, 1, 8, 8);
        x.rescale(1, 1);
        dueKeys(x, 1, 16);
        x.rescale(1, 3);
        dueKeys(x, 1, 6, 6, 4);
        x.fail();
        dueKeys(x, 1, 6, 6, 4);
        for (int key = 0; key < 16; key++) {
            dueState(x, 1, key, key + 1, 0);
            dueSaved(x, 1, key, key + 1, 0);
        }
        pushAll(x, 7, 8, 80);
        x.tick(200);
        dueState(x, 1, 7, 80, 0);
        dueState(x, 2, 7, 8 + 80, 2);
    }

    @Holds(at = "Rescaling", says = "the states of its keys belong to the instances to which the keys go now, also in the saved checkpoint")
    static void theNextCheckpointSavesTheKeysOfEachNewInstance() {
        PipelineSimulator x = allKeys("d");
        completeCheckpoint(x);
        x.rescale(1, 3);
        for (int key = 0; key < 16; key++) {
            x.push(key, 50 + key);
        }
        x.tick(200);
        completeCheckpoint(x);
        due("complete", x.count(4), 2);
        x.fail();
        dueKeys(x, 1, 6, 6, 4);
        for (int key = 0; key < 16; key++) {
            dueState(x, 1, key, 50 + key, 0);
        }
    }

    @Holds(at = "Rescaling", says = "and the counters of its instances are 0, also in the saved checkpoint")
    static void theCountersOfARescaledOperatorAreZero() {
        PipelineSimulator x = with("c(1)2|c(1)2", 1, 1, 4, 5);
        pushAll(x, 3, 1, 2, 3);
        x.tick(200);
        completeCheckpoint(x);
        due("counter of instance 0", x.instance(1, 0, 4), 2);
        due("counter of instance 1", x.instance(1, 1, 4), 1);
        x.rescale(1, 3);
        for (int i = 0; i < 3; i++) {
            due("counter of instance " + i, x.instance(1, i, 4), 0);
        }
        x.fail();
        for (int i = 0; i < 3; i++) {
            due("saved counter of instance " + i, x.instance(1, i, 4), 0);
        }
    }

    @Holds(at = "Rescaling", says = "and the counters of its instances are 0, also in the saved checkpoint")
    static void theCountersAreZeroAlsoWhenTheNumberIsTheSame() {
        PipelineSimulator x = with("c(1)2|c(1)2", 1, 1, 4, 5);
        pushAll(x, 3, 1, 2, 3);
        x.tick(200);
        completeCheckpoint(x);
        x.rescale(1, 2);
        due("counter of the source", x.instance(0, 0, 4), 3);
        due("counter of instance 0", x.instance(1, 0, 4), 0);
        due("counter of instance 1", x.instance(1, 1, 4), 0);
        due("counter of the next operator", x.instance(2, 0, 4), 0);
        x.fail();
        due("saved counter of instance 0", x.instance(1, 0, 4), 0);
    }

    @Holds(at = "Rescaling", says = "To rescale an operator means: a failure")
    static void rescalingDiscardsARunningCheckpointAndEmptiesAll() {
        PipelineSimulator x = aligning();
        due("no key has a state", x.rescale(3, 2), 0);
        dueCounts(x, 4, 1, 0, 5, 0, 0, 1, 0, 0, 0);
        due("stopped", x.instance(3, 0, 2), 0);
        due("pointer", x.instance(3, 0, 3), 0);
        due("a new instance", x.instance(3, 1, 2), 0);
        x.tick(200);
        dueState(x, 2, 7, 6, 3);
    }

    @Holds(at = "Latencies", says = "as its birth the number of ticks that were performed before the present one")
    static void theLeastLatencyIsOneTick() {
        PipelineSimulator x = with("", 1, 1, 2, 1);
        x.push(3, 5);
        x.tick(2);
        due("born before the first tick ended", x.latency(-2), 1);
        x.push(3, 5);
        x.tick(200);
        due("born in the third tick", x.latency(-2), 2);
        due("greatest", x.latency(100), 1);
    }

    @Holds(at = "Latencies", says = "what an operator emits when it processes a record has the birth of this record")
    static void aSumHasTheBirthOfItsLastRecord() {
        PipelineSimulator x = with("s(2)", 1, 1, 2, 1);
        x.push(3, 5);
        x.tick(9);
        x.push(3, 6);
        x.tick(200);
        due("number", x.latency(-1), 1);
        due("two ticks, not more", x.latency(-2), 2);
    }

    @Holds(at = "Latencies", says = "Latencies are counted since the simulation began, those of replayed records, too.")
    static void latenciesOfReplayedRecordsAreCountedOnceMore() {
        PipelineSimulator x = with("", 1, 1, 2, 1);
        x.push(3, 5);
        x.tick(200);
        x.fail();
        due("a failure leaves them", x.latency(-1), 1);
        x.tick(200);
        due("number", x.latency(-1), 2);
        due("sum, with births of their own", x.latency(-2), 2);
        x.rescale(1, 2);
        due("rescaling leaves them", x.latency(-1), 2);
        x.clear();
        due("a new simulation has none", x.latency(-1), NONE);
    }

    @Holds(at = "Plain results", says = "the records of the input from 0 to the offset - 1")
    static void withTheOffsetZeroThereAreNoPlainResults() {
        PipelineSimulator x = new PipelineSimulator();
        pushAll(x, 3, 1, 2);
        for (int key = 0; key < 16; key++) {
            duePlain(x, key, NONE, NONE);
        }
    }

    @Holds(at = "Plain results", says = "the records of the input from 0 to the offset - 1")
    static void theRecordAtTheOffsetIsLeftOut() {
        PipelineSimulator x = with("", 1, 9, 4, 1);
        pushAll(x, 3, 1, 2, 4);
        int[] sums = {1, 3, 7, 7};
        for (int i = 0; i < sums.length; i++) {
            x.tick(1);
            duePlain(x, 3, sums[i], Math.min(i + 1, 3));
        }
        x.fail();
        duePlain(x, 3, NONE, NONE);
        x.tick(1);
        duePlain(x, 3, 1, 1);
    }

    @Holds(at = "Plain results", says = "the records of the input from 0 to the offset - 1")
    static void thePlainResultsGoBackWithTheOffset() {
        PipelineSimulator x = with("s(2)|d", 1, 1, 4, 5);
        pushAll(x, 3, 1, 2, 3);
        x.tick(200);
        completeCheckpoint(x);
        pushAll(x, 3, 4);
        x.tick(200);
        duePlain(x, 3, 3 + 7, 2);
        x.fail();
        due("offset", x.count(2), 3);
        duePlain(x, 3, 3, 1);
        x.tick(200);
        duePlain(x, 3, 3 + 7, 2);
    }

    @Holds(at = "Plain results", says = "the records of the input from 0 to the offset - 1")
    static void allSixtyRecordsHaveTheirResults() {
        PipelineSimulator x = with("c(3)|c(3)|c(3)|c(3)", 4, 9, 4, 5);
        pushMany(x, 3, 1, 60);
        x.tick(200);
        x.tick(200);
        x.tick(200);
        x.tick(200);
        x.tick(200);
        due("all are emitted", x.count(2), 60);
        // 81 records with the values 1 to 9 for each one, on the average 5
        duePlain(x, 3, 60 * 81 * 5, 60 * 81);
    }

    @Holds(at = "Plain results", says = "if each record were processed by all operators, each with one instance, before the next one")
    static void instancesDoNotChangeThePlainResults() {
        String[] texts = {"d|c(2)|d", "d3|c(2)3|d3$3"};
        for (String text : texts) {
            PipelineSimulator x = quiet(text, 3, 5, 5, 6, 5);
            // 5, 6, then 6, 7, then 5, 6: the second 6 is no change
            duePlain(x, 3, 5 + 6 + 7 + 5 + 6, 5);
        }
    }

    @Holds(at = "Plain results", says = "the first emitted record with all that it leads to before the second one")
    static void theFirstEmittedRecordIsFollowedBeforeTheSecond() {
        dueResult("c(3)|r", 5, 5, 1 + 2 + 3, 3, 1);
        // 1 and 2 of the first copy come before 2 and 3 of the second one
        dueResult("c(2)|c(2)|r", 5, 5, 1 + 2 + 3, 3, 1);
        dueResult("c(2)|k(0,1)|c(2)|d", 5, 1, 1 + 2 + 3, 3, 1);
    }

    @Holds(at = "Explanations", says = "An explanation of an instance has levels, numbered from 0.")
    static void theFirstLevelHasTheNumberZero() {
        PipelineSimulator x = new PipelineSimulator();
        due("one level", x.explain(1, 0), 1);
        due("level 0", x.explanation(0, 0), 10);
        due("below it", x.explanation(-1, 0), NONE);
        due("behind it", x.explanation(1, 0), NONE);
    }

    @Holds(at = "Explanations", says = "A level has a place, 10 times the operator plus the instance, and a reason")
    static void theLeastAndTheGreatestPlace() {
        PipelineSimulator x = reading("d|d|d|d$3");
        dueLevels(x, 0, 0, 0, 4);
        dueLevels(x, 5, 2, 52, 4);
    }

    @Holds(at = "Explanations", says = "1: the first record of its list cannot be put now")
    static void anEmptyListIsNoReasonOne() {
        dueLevels(blockedSource(3), 0, 0, 0, 4);
        dueLevels(blockedSource(4), 0, 0, 0, 1, 10, 5);
        PipelineSimulator x = with("d3", 1, 9, 2, 5);
        pushAll(x, 7, 1, 2, 3, 4);
        x.tick(1);
        dueLevels(x, 0, 0, 0, 1, 12, 5);
        PipelineSimulator y = with("c(1)3", 1, 9, 2, 5);
        pushMany(y, 7, 1, 60);
        y.tick(1);
        due("not blocked, each instance has its turn", y.explain(0, 0), 1);
    }

    @Holds(at = "Explanations", says = "2: it holds a barrier that cannot be put now; the next level is about the lowest instance")
    static void theLowestInstanceWithoutRoomForTheBarrierIsNext() {
        PipelineSimulator x = with("$3", 1, 9, 2, 5);
        pushAll(x, 4, 1, 2);
        pushAll(x, 7, 1, 2);
        x.tick(1);
        x.checkpoint();
        dueLevels(x, 0, 0, 0, 2, 11, 5);
        PipelineSimulator y = with("$3", 1, 9, 2, 5);
        pushAll(y, 0, 1);
        pushAll(y, 7, 1, 2);
        y.tick(1);
        y.checkpoint();
        dueLevels(y, 0, 0, 0, 2, 12, 5);
    }

    @Holds(at = "Explanations", says = "2: it holds a barrier that cannot be put now; the next level is about the lowest instance")
    static void aBarrierWithRoomIsNoReasonTwo() {
        PipelineSimulator x = with("$3", 1, 9, 2, 5);
        pushAll(x, 0, 1);
        x.tick(1);
        x.checkpoint();
        due("held", x.instance(0, 0, 1), 1);
        dueLevels(x, 0, 0, 0, 4);
        x.push(0, 2);
        dueLevels(x, 0, 0, 0, 5);
    }

    @Holds(at = "Explanations", says = "the lowest instance of the operator before whose channel is not stopped")
    static void theLowestChannelThatIsNotStoppedIsNext() {
        // channel 0 is stopped
        dueLevels(aligning(), 3, 0, 30, 3, 21, 5);
        // channel 1 is stopped, channel 0 is not
        PipelineSimulator x = with("c(3)|s(5)2", 1, 9, 4, 1);
        x.push(0, 1);
        x.tick(1);
        x.checkpoint();
        x.tick(4);
        due("stopped", x.instance(3, 0, 2), 2);
        dueLevels(x, 3, 0, 30, 3, 20, 5);
    }

    /** Keys that keep some of three instances busy before their barriers come; the checkpoint begins behind all records. */
    private static PipelineSimulator aligningThree(int ticks, int... keys) {
        PipelineSimulator x = with("c(3)|s(5)3", 1, 9, 4, 1);
        for (int key : keys) {
            x.push(key, 1);
        }
        x.tick(keys.length);
        x.checkpoint();
        x.tick(ticks);
        return x;
    }

    @Holds(at = "Explanations", says = "the lowest instance of the operator before whose channel is not stopped")
    static void ofThreeChannelsTheLowestThatIsNotStoppedIsNext() {
        PipelineSimulator first = aligningThree(4, 3, 4, 7);
        due("stopped", first.instance(3, 0, 2), 1);
        dueLevels(first, 3, 0, 30, 3, 21, 5);
        PipelineSimulator firstAndLast = aligningThree(6, 3, 4);
        due("stopped", firstAndLast.instance(3, 0, 2), 5);
        dueLevels(firstAndLast, 3, 0, 30, 3, 21, 5);
        PipelineSimulator firstTwo = aligningThree(6, 6, 7);
        due("stopped", firstTwo.instance(3, 0, 2), 3);
        dueLevels(firstTwo, 3, 0, 30, 3, 22, 5);
    }

    @Holds(at = "Explanations", says = "3: neither, and a channel is stopped, and no item can be taken from the others")
    static void anItemOfAnotherChannelIsNoReasonThree() {
        PipelineSimulator x = aligning();
        x.tick(1);
        due("one is stopped", x.instance(3, 0, 2), 1);
        dueLevels(x, 3, 0, 30, 5);
        x.tick(1);
        due("none is stopped", x.instance(3, 0, 2), 0);
        dueLevels(x, 3, 0, 30, 4);
    }

    @Holds(at = "Explanations", says = "4: none of these, and no item can be taken, or for the source, there is no record at the offset")
    static void nothingToTakeIsReasonFour() {
        PipelineSimulator x = with("", 2, 9, 2, 1);
        dueLevels(x, 0, 0, 0, 4);
        dueLevels(x, 1, 0, 10, 4);
        x.push(3, 1);
        dueLevels(x, 0, 0, 0, 5);
        x.tick(1);
        // the only record is in the open batch
        dueLevels(x, 0, 0, 0, 4);
        dueLevels(x, 1, 0, 10, 4);
        x.push(3, 2);
        x.tick(1);
        dueLevels(x, 1, 0, 10, 5);
    }

    @Holds(at = "Explanations", says = "A level with the reason 4 or 5 is the last one, and so is level 7.")
    static void anExplanationOfAllEightLevels() {
        PipelineSimulator x = eightLevels();
        dueLevels(x, 0, 0, 0, 1, 10, 1, 20, 1, 30, 3, 21, 2, 31, 1, 40, 1, 50, 5);
        due("no level 8", x.explanation(8, 0), NONE);
    }

    @Holds(at = "Explanations", says = "A level with the reason 4 or 5 is the last one, and so is level 7.")
    static void anExplanationEndsWithTheReasonFourOrFive() {
        dueLevels(new PipelineSimulator(), 0, 0, 0, 4);
        PipelineSimulator x = blockedSource(6);
        dueLevels(x, 1, 0, 10, 5);
        dueLevels(x, 0, 0, 0, 1, 10, 5);
    }
}
