/** Boundaries of Channels, Ticks and Working. */
final class ChannelBoundaries extends Calls {
    private ChannelBoundaries() {
    }

    private static void dueChannel(PipelineSimulator x, int operator, int to, int queue, int open, int records) {
        due("batches in the queue", x.channel(operator, 0, to, 0), queue);
        due("records in the open batch", x.channel(operator, 0, to, 1), open);
        due("records altogether", x.channel(operator, 0, to, 2), records);
    }

    /** The source sends as many records as the first tick lets it. */
    private static PipelineSimulator sent(int size, int credits, int records) {
        PipelineSimulator x = with("", size, 9, credits, 5);
        for (int i = 1; i <= records; i++) {
            x.push(3, i);
        }
        x.tick(1);
        return x;
    }

    @Holds(at = "Channels", says = "The queue has at most as many batches as there are credits.")
    static void theQueueIsFullWithAsManyBatchesAsCredits() {
        for (int credits = 2; credits <= 4; credits++) {
            PipelineSimulator x = sent(1, credits, 5);
            dueChannel(x, 0, 0, credits, 1, Math.min(credits + 1, 5));
            due("free credits", x.channel(0, 0, 0, 4), 0);
            due("what found no room", x.instance(0, 0, 0), credits == 4 ? 0 : 1);
        }
    }

    @Holds(at = "Channels", says = "The queue has at most as many batches as there are credits.")
    static void theQueueHasRoomWithOneBatchLessThanCredits() {
        for (int credits = 2; credits <= 4; credits++) {
            PipelineSimulator x = sent(1, credits, credits - 1);
            dueChannel(x, 0, 0, credits - 1, 0, credits - 1);
            due("free credits", x.channel(0, 0, 0, 4), 1);
        }
    }

    @Holds(at = "Channels", says = "a record can be put into a channel if the open batch has less than s records, or the queue has room")
    static void aRecordCanBePutIntoTheOpenBatchWhileTheQueueIsFull() {
        PipelineSimulator x = sent(2, 2, 5);
        dueChannel(x, 0, 0, 2, 1, 5);
        due("not blocked", x.operator(0, 6), 0);
        x = sent(1, 2, 3);
        dueChannel(x, 0, 0, 2, 1, 3);
        due("not blocked", x.operator(0, 6), 0);
    }

    @Holds(at = "Channels", says = "a record can be put into a channel if the open batch has less than s records, or the queue has room")
    static void noRecordCanBePutWhenTheOpenBatchAndTheQueueAreFull() {
        PipelineSimulator x = sent(1, 2, 4);
        dueChannel(x, 0, 0, 2, 1, 3);
        due("it stays in the list", x.instance(0, 0, 0), 1);
        due("blocked", x.operator(0, 6), 1);
        // with the batch size 2, six copies of two records find room, and none of the third one
        PipelineSimulator y = with("c(3)", 2, 9, 2, 4);
        pushAll(y, 3, 1, 2, 3, 4);
        y.tick(2);
        dueChannel(y, 1, 0, 2, 2, 6);
        due("they stay in the list", y.instance(1, 0, 0), 3);
        due("blocked", y.operator(1, 6), 1);
    }

    @Holds(at = "Channels", says = "a record can be put into a channel if the open batch has less than s records, or the queue has room")
    static void theOtherChannelsOfABlockedInstanceKeepTheirRoom() {
        PipelineSimulator x = with("$2", 1, 9, 2, 5);
        pushAll(x, 0, 1, 2, 3, 4);
        pushAll(x, 7, 5);
        x.tick(1);
        dueChannel(x, 0, 0, 2, 1, 3);
        dueChannel(x, 0, 1, 0, 0, 0);
        due("blocked", x.operator(0, 6), 1);
    }

    @Holds(at = "Channels", says = "If the open batch has s records, it is closed first: it becomes the last batch of the queue, and the open batch is empty.")
    static void aFullOpenBatchIsClosedBeforeTheNextRecord() {
        PipelineSimulator x = sent(1, 2, 4);
        x.tick(1);
        // the sink has taken both batches; the full open batch and the record of the list are the queue now
        dueState(x, 1, 3, 1 + 2, 2);
        dueChannel(x, 0, 0, 2, 0, 2);
        x.tick(1);
        dueState(x, 1, 3, 1 + 2 + 3 + 4, 4);
    }

    @Holds(at = "Channels", says = "If the open batch has s records, it is closed first: it becomes the last batch of the queue, and the open batch is empty.")
    static void theOrderOfRecordsStaysWhenAFullOpenBatchIsClosed() {
        PipelineSimulator x = with("d", 1, 9, 2, 5);
        pushAll(x, 3, 1, 2, 3, 4, 5, 6);
        x.tick(1);
        for (int latest = 2; latest <= 6; latest += 2) {
            x.tick(1);
            due("latest value", x.state(1, 3, 0), latest);
        }
    }

    @Holds(at = "Channels", says = "if it has s records then and the queue has room, it is closed at once")
    static void aBatchBelowItsSizeStaysOpen() {
        dueChannel(sent(2, 2, 1), 0, 0, 0, 1, 1);
        dueChannel(sent(3, 2, 2), 0, 0, 0, 2, 2);
        dueChannel(sent(4, 2, 3), 0, 0, 0, 3, 3);
    }

    @Holds(at = "Channels", says = "if it has s records then and the queue has room, it is closed at once")
    static void aBatchOfItsSizeIsClosedAtOnce() {
        dueChannel(sent(1, 2, 1), 0, 0, 1, 0, 1);
        dueChannel(sent(2, 2, 2), 0, 0, 1, 0, 2);
        dueChannel(sent(3, 2, 3), 0, 0, 1, 0, 3);
        dueChannel(sent(4, 2, 4), 0, 0, 1, 0, 4);
        dueChannel(sent(4, 2, 5), 0, 0, 1, 1, 5);
    }

    @Holds(at = "Channels", says = "if it has s records then and the queue has room, it is closed at once")
    static void aFullBatchStaysOpenWhileTheQueueIsFull() {
        dueChannel(sent(1, 2, 3), 0, 0, 2, 1, 3);
        PipelineSimulator x = with("c(3)", 2, 9, 2, 3);
        pushAll(x, 3, 1, 2);
        x.tick(2);
        dueChannel(x, 1, 0, 2, 2, 6);
    }

    @Holds(at = "Channels", says = "A new open batch has the age 0.")
    static void theOpenBatchAfterAClosedOneIsNew() {
        PipelineSimulator x = with("", 2, 9, 4, 1);
        x.push(3, 1);
        x.tick(3);
        due("age of the first one", x.channel(0, 0, 0, 3), 2);
        pushAll(x, 3, 2, 3);
        x.tick(1);
        due("the first one is closed", x.channel(0, 0, 0, 0), 1);
        x.tick(1);
        due("the third record", x.channel(0, 0, 0, 1), 1);
        due("age of the second one", x.channel(0, 0, 0, 3), 0);
        x.tick(1);
        due("age of the second one", x.channel(0, 0, 0, 3), 1);
    }

    @Holds(at = "Channels", says = "A new open batch has the age 0.")
    static void theOpenBatchAfterAnOldFullOneIsNew() {
        PipelineSimulator x = sent(1, 2, 6);
        due("the full one is new", x.channel(0, 0, 0, 3), 0);
        // the full one grows old, then two batches are closed, and the fifth record is in a new one
        x.tick(1);
        dueChannel(x, 0, 0, 2, 1, 3);
        due("the next one is new, too", x.channel(0, 0, 0, 3), 0);
    }

    @Holds(at = "Channels", says = "A new open batch has the age 0.")
    static void oneRecordMoreDoesNotMakeTheOpenBatchNew() {
        PipelineSimulator x = with("", 4, 9, 2, 1);
        x.push(3, 1);
        x.tick(3);
        due("age", x.channel(0, 0, 0, 3), 2);
        pushAll(x, 3, 2, 3);
        x.tick(2);
        due("records", x.channel(0, 0, 0, 1), 3);
        due("age", x.channel(0, 0, 0, 3), 4);
    }

    @Holds(at = "Channels", says = "A barrier can be put if the queue has room for it and for the open batch")
    static void aBarrierAndTheOpenBatchNeedRoomForTwo() {
        PipelineSimulator x = with("c(3)", 1, 9, 2, 1);
        x.push(7, 1);
        x.tick(1);
        x.checkpoint();
        x.tick(2);
        dueChannel(x, 1, 0, 1, 1, 2);
        due("one free credit is too few", x.instance(1, 0, 1), 1);
        due("blocked", x.operator(1, 6), 1);
        dueLevels(x, 1, 0, 10, 2, 20, 5);
        x.tick(1);
        due("two are enough", x.instance(1, 0, 1), 0);
        dueChannel(x, 1, 0, 2, 0, 1);
        due("not blocked", x.operator(1, 6), 1);
    }

    @Holds(at = "Channels", says = "unless that is empty, which needs no room")
    static void aBarrierAloneNeedsRoomForOne() {
        PipelineSimulator x = with("c(2)", 1, 9, 2, 1);
        x.push(7, 1);
        x.tick(1);
        x.checkpoint();
        x.tick(1);
        dueChannel(x, 1, 0, 2, 0, 2);
        x.tick(1);
        // the sink has taken one batch, and the barrier is in its place
        dueChannel(x, 1, 0, 2, 0, 1);
        due("put", x.instance(1, 0, 1), 0);
        due("not blocked", x.operator(1, 6), 0);
    }

    @Holds(at = "Channels", says = "A barrier can be put if the queue has room for it")
    static void aBarrierCannotBePutIntoAFullQueue() {
        PipelineSimulator x = with("c(3)", 1, 9, 2, 1);
        pushAll(x, 7, 1, 2, 3, 4, 5);
        x.tick(5);
        dueChannel(x, 0, 0, 2, 0, 2);
        x.checkpoint();
        dueLevels(x, 0, 0, 0, 2, 10, 1, 20, 5);
        x.tick(2);
        due("held", x.instance(0, 0, 1), 1);
        due("the queue is still full", x.channel(0, 0, 0, 0), 2);
        due("blocked twice", x.operator(0, 6), 2);
        x.tick(1);
        due("put when there is room", x.instance(0, 0, 1), 0);
        dueChannel(x, 0, 0, 2, 0, 1);
    }

    @Holds(at = "Channels", says = "The open batch is closed first, unless it is empty; then the barrier becomes the last batch.")
    static void noEmptyBatchIsClosedForABarrier() {
        PipelineSimulator x = new PipelineSimulator();
        x.checkpoint();
        x.tick(1);
        dueChannel(x, 0, 0, 1, 0, 0);
        x.tick(1);
        dueChannel(x, 0, 0, 0, 0, 0);
        due("complete", x.count(4), 1);
    }

    @Holds(at = "Channels", says = "The open batch is closed first, unless it is empty; then the barrier becomes the last batch.")
    static void theOpenBatchGoesBeforeTheBarrier() {
        PipelineSimulator x = with("", 4, 9, 2, 1);
        x.push(7, 5);
        x.tick(1);
        x.checkpoint();
        x.push(7, 6);
        x.tick(1);
        // batch and barrier are the queue, the next record is open
        dueChannel(x, 0, 0, 2, 1, 2);
        x.tick(1);
        dueState(x, 1, 7, 5, 1);
        dueChannel(x, 0, 0, 1, 1, 1);
        x.tick(1);
        dueSaved(x, 1, 7, 5, 1);
    }

    @Holds(at = "Channels", says = "The first batch of the queue is removed when its last record, or its barrier, has been taken.")
    static void aBatchStaysUntilItsLastRecordIsTaken() {
        PipelineSimulator x = with("", 3, 9, 2, 1);
        pushAll(x, 7, 1, 2, 3);
        x.tick(3);
        int[] batches = {1, 1, 1, 0};
        for (int taken = 0; taken <= 3; taken++) {
            due("records", x.channel(0, 0, 0, 2), 3 - taken);
            due("batches after " + taken, x.channel(0, 0, 0, 0), batches[taken]);
            due("free credits after " + taken, x.channel(0, 0, 0, 4), 2 - batches[taken]);
            x.tick(1);
        }
    }

    @Holds(at = "Channels", says = "The first batch of the queue is removed when its last record, or its barrier, has been taken.")
    static void aBarrierIsRemovedWhenItIsTaken() {
        PipelineSimulator x = with("c(1)2", 1, 9, 2, 1);
        x.checkpoint();
        x.tick(2);
        due("the barrier", x.channel(1, 0, 0, 0), 1);
        x.tick(1);
        due("stopped, and taken", x.channel(1, 0, 0, 0), 0);
        due("the credit is free", x.channel(1, 0, 0, 4), 2);
        due("the other barrier", x.channel(1, 1, 0, 0), 1);
    }

    @Holds(at = "Ticks", says = "the age of each open batch that is not empty is increased by 1")
    static void anEmptyOpenBatchDoesNotGrowOlder() {
        PipelineSimulator x = with("$2", 2, 9, 2, 1);
        x.push(7, 1);
        x.tick(3);
        due("a record waits", x.channel(0, 0, 1, 3), 2);
        due("an empty one", x.channel(0, 0, 0, 3), 0);
        x.push(0, 1);
        x.tick(1);
        due("a record waits", x.channel(0, 0, 1, 3), 3);
        due("no longer empty", x.channel(0, 0, 0, 1), 1);
        due("but new", x.channel(0, 0, 0, 3), 0);
        x.tick(1);
        due("now it grows older", x.channel(0, 0, 0, 3), 1);
    }

    private static void dueClosedAfter(int age) {
        PipelineSimulator x = with("", 2, age, 2, 5);
        x.push(7, 1);
        x.tick(1);
        for (int i = 0; i < age; i++) {
            dueChannel(x, 0, 0, 0, 1, 1);
            due("age", x.channel(0, 0, 0, 3), i);
            x.tick(1);
        }
        dueChannel(x, 0, 0, 0, 0, 0);
        due("taken by the sink", x.count(9), 1);
    }

    @Holds(at = "Ticks", says = "if it is at least the greatest age then and the queue has room, the batch is closed")
    static void anOpenBatchIsClosedWithTheGreatestAgeAndNotBefore() {
        dueClosedAfter(1);
        dueClosedAfter(2);
        dueClosedAfter(3);
        dueClosedAfter(9);
    }

    @Holds(at = "Ticks", says = "if it is at least the greatest age then and the queue has room, the batch is closed")
    static void anOldOpenBatchWaitsForRoomBeyondTheGreatestAge() {
        PipelineSimulator x = with("c(3)", 1, 1, 2, 1);
        x.push(7, 1);
        x.tick(2);
        dueChannel(x, 1, 0, 2, 1, 3);
        x.tick(1);
        // the tick began with a full queue
        dueChannel(x, 1, 0, 1, 1, 2);
        due("age", x.channel(1, 0, 0, 3), 1);
        x.tick(1);
        // its age was 2 when it was closed
        dueChannel(x, 1, 0, 1, 0, 1);
        due("age", x.channel(1, 0, 0, 3), 0);
    }

    @Holds(at = "Working", says = "it has a budget, which is the rate")
    static void theLeastAndTheGreatestBudget() {
        for (int rate = 1; rate <= 5; rate++) {
            PipelineSimulator x = with("", 4, 9, 4, rate);
            pushMany(x, 7, 1, 9);
            x.tick(1);
            due("records with the rate " + rate, x.count(2), rate);
        }
    }

    @Holds(at = "Working", says = "While the list is not empty, its first record is put into the channel where it goes, and removed from the list.")
    static void whatTheLastItemEmitsIsSentWithoutBudget() {
        PipelineSimulator x = with("c(3)", 4, 9, 4, 1);
        x.push(7, 1);
        x.tick(1);
        due("the list of the source", x.instance(0, 0, 0), 0);
        dueChannel(x, 0, 0, 0, 1, 1);
        PipelineSimulator y = with("c(3)", 1, 9, 4, 1);
        y.push(7, 1);
        y.tick(2);
        due("the list of the stage", y.instance(1, 0, 0), 0);
        dueChannel(y, 1, 0, 3, 0, 3);
    }

    @Holds(at = "Working", says = "If it cannot be put, the working ends; the instance is blocked.")
    static void aBlockedInstanceTakesNothing() {
        PipelineSimulator x = sent(1, 2, 6);
        due("of the rate 5, only four were taken", x.count(2), 4);
        due("blocked", x.operator(0, 6), 1);
        due("not idle", x.operator(0, 7), 0);
    }

    @Holds(at = "Working", says = "If it cannot be put, the working ends; the instance is blocked.")
    static void aListThatIsSentInPartIsBlocked() {
        PipelineSimulator x = with("c(3)", 1, 9, 2, 2);
        pushAll(x, 7, 1, 2);
        x.tick(2);
        // three copies of the first record have gone, none of the second one
        due("list", x.instance(1, 0, 0), 3);
        due("blocked", x.operator(1, 6), 1);
        x.tick(1);
        // the sink took two, so two more have gone
        due("list", x.instance(1, 0, 0), 1);
        due("blocked", x.operator(1, 6), 2);
        x.tick(1);
        due("list", x.instance(1, 0, 0), 0);
        due("idle, not blocked", x.operator(1, 6), 2);
    }

    @Holds(at = "Working", says = "If it cannot be put into one of them, none gets it, and the working ends; the instance is blocked.")
    static void aBarrierGoesIntoAllChannelsOrIntoNone() {
        PipelineSimulator x = with("c(3)|d2", 1, 9, 2, 1);
        x.push(7, 1);
        x.tick(1);
        x.checkpoint();
        x.push(7, 9);
        x.tick(2);
        due("held", x.instance(1, 0, 1), 1);
        dueChannel(x, 1, 1, 1, 1, 2);
        dueChannel(x, 1, 0, 0, 0, 0);
        due("blocked", x.operator(1, 6), 1);
        due("nothing was taken behind it", x.channel(0, 0, 0, 2), 1);
        x.tick(1);
        due("put", x.instance(1, 0, 1), 0);
        due("into the one", x.channel(1, 0, 0, 0), 1);
        due("into the other one, behind its batch", x.channel(1, 0, 1, 0), 2);
    }

    @Holds(at = "Working", says = "has no channels, so it never holds a barrier.")
    static void theSinkNeverHoldsABarrier() {
        PipelineSimulator x = with("$2", 1, 1, 2, 1);
        x.checkpoint();
        for (int tick = 0; tick < 3; tick++) {
            for (int i = 0; i < 2; i++) {
                due("held", x.instance(1, i, 1), 0);
            }
            x.tick(1);
        }
        due("complete", x.count(4), 1);
        due("never blocked", x.operator(1, 6), 0);
    }

    @Holds(at = "Working", says = "If the budget is 0, the working ends. Otherwise the instance takes an item.")
    static void anInstanceWithoutBudgetIsNeitherBlockedNorIdle() {
        PipelineSimulator x = with("", 4, 9, 4, 3);
        pushAll(x, 7, 1, 2, 3);
        x.tick(1);
        due("all are taken", x.count(2), 3);
        due("not blocked", x.operator(0, 6), 0);
        due("not idle", x.operator(0, 7), 0);
        x.tick(1);
        due("idle with a budget", x.operator(0, 7), 1);
    }

    @Holds(at = "Working", says = "If there is none, the working ends; it is idle.")
    static void anInstanceThatFindsNoItemIsIdle() {
        PipelineSimulator x = with("", 4, 9, 4, 4);
        pushAll(x, 7, 1, 2, 3);
        x.tick(1);
        due("the source has one left of its budget", x.operator(0, 7), 1);
        due("nothing has arrived at the sink", x.operator(1, 7), 1);
        due("not blocked", x.operator(0, 6) + x.operator(1, 6), 0);
    }

    @Holds(at = "Working", says = "The budget is decreased by 1.")
    static void theBudgetEndsInTheMiddleOfABatch() {
        PipelineSimulator x = with("", 4, 1, 4, 3);
        pushAll(x, 7, 1, 2, 3, 4);
        x.tick(2);
        due("emitted", x.count(2), 4);
        due("one batch", x.channel(0, 0, 0, 2), 4 - 3);
        due("the sink took three of four", x.count(9), 3);
    }

    @Holds(at = "Working", says = "The target of a record is determined when it is put, and the counter is only increased then.")
    static void aBlockedRecordLeavesTheCounter() {
        PipelineSimulator x = with("m(1,0)", 1, 9, 2, 5);
        pushAll(x, 7, 1, 2, 3, 4);
        x.tick(1);
        due("four are emitted", x.count(2), 4);
        due("one is blocked", x.instance(0, 0, 0), 1);
        due("three are put", x.instance(0, 0, 4), 3);
        x.tick(1);
        due("all are put", x.instance(0, 0, 4), 4);
    }

    @Holds(at = "Working", says = "The source takes the input record at its offset, if there is one, and emits it; the offset is increased by 1.")
    static void theSourceTakesNothingBehindTheLastRecord() {
        PipelineSimulator x = new PipelineSimulator();
        x.checkpoint();
        x.tick(1);
        due("nothing of an empty input", x.count(2), 0);
        due("idle", x.operator(0, 7), 1);
        due("nothing is emitted", x.operator(0, 5), 0);
        x.tick(200);
        x.push(7, 1);
        x.tick(200);
        due("one of one", x.count(2), 1);
        due("one is emitted", x.operator(0, 5), 1);
    }

    @Holds(at = "Working", says = "instance has a pointer, at first 0, to its input channels")
    static void thePointerIsZeroAtFirst() {
        PipelineSimulator x = with("c(1)3", 1, 9, 4, 3);
        pushAll(x, 7, 1, 2, 3);
        x.tick(2);
        due("each channel has an item", x.channel(1, 0, 0, 0) + x.channel(1, 1, 0, 0) + x.channel(1, 2, 0, 0), 3);
        due("pointer", x.instance(2, 0, 3), 0);
        PipelineSimulator y = with("c(1)3|d", 1, 9, 4, 3);
        pushAll(y, 7, 1, 2, 3);
        y.tick(3);
        due("so the last one is of channel 2", y.state(2, 7, 0), 3);
        due("pointer", y.instance(2, 0, 3), 0);
    }

    @Holds(at = "Working", says = "Beginning with the pointer, and going on in ascending order and from the last one to the first one")
    static void theSearchGoesFromTheLastChannelToTheFirst() {
        PipelineSimulator x = with("f(2,0)3|d", 1, 9, 4, 1);
        // the first goes through instance 0, the second is dropped by instance 1, the third is dropped, the fourth goes through 0
        pushAll(x, 7, 1, -1, -1, 2);
        x.tick(3);
        due("behind channel 0", x.instance(2, 0, 3), 1);
        due("the first one", x.state(2, 7, 0), 1);
        x.tick(3);
        due("over 1 and 2 to channel 0", x.state(2, 7, 0), 2);
        due("behind channel 0", x.instance(2, 0, 3), 1);
    }

    /** Three channels into one instance of d; of the instances before, only those with a value above 0 send it. */
    private static PipelineSimulator threeChannels(int... values) {
        PipelineSimulator x = with("f(2,0)3|d", 1, 9, 4, 3);
        pushAll(x, 7, values);
        x.tick(3);
        return x;
    }

    @Holds(at = "Working", says = "Beginning with the pointer, and going on in ascending order and from the last one to the first one")
    static void theSearchAscendsFromThePointer() {
        // from 0: 1 comes before 2
        PipelineSimulator x = threeChannels(-1, 5, 6);
        due("the last one is of channel 2", x.state(2, 7, 0), 6);
        due("pointer", x.instance(2, 0, 3), 0);
        // from 1: 2 comes before 0
        PipelineSimulator y = threeChannels(1, -1, -1);
        due("pointer", y.instance(2, 0, 3), 1);
        pushAll(y, 7, 5, -1, 6);
        y.tick(3);
        due("the last one is of channel 0", y.state(2, 7, 0), 5);
        due("pointer", y.instance(2, 0, 3), 1);
        // from 2: 0 comes before 1
        PipelineSimulator z = threeChannels(-1, 1, -1);
        due("pointer", z.instance(2, 0, 3), 2);
        pushAll(z, 7, 5, 6, -1);
        z.tick(3);
        due("the last one is of channel 1", z.state(2, 7, 0), 6);
        due("pointer", z.instance(2, 0, 3), 2);
    }

    @Holds(at = "Working", says = "the pointer then is the number after that channel, modulo the number of channels")
    static void thePointerWrapsAroundBehindTheLastChannel() {
        PipelineSimulator x = with("c(1)3", 1, 9, 4, 1);
        pushAll(x, 7, 1, 2, 3, 4);
        x.tick(2);
        int[] pointers = {1, 2, 0, 1};
        for (int pointer : pointers) {
            x.tick(1);
            due("pointer", x.instance(2, 0, 3), pointer);
        }
    }

    @Holds(at = "Working", says = "the pointer then is the number after that channel, modulo the number of channels")
    static void thePointerToOneChannelStaysZero() {
        PipelineSimulator x = new PipelineSimulator();
        pushAll(x, 7, 1, 2, 3);
        x.tick(2);
        due("taken", x.count(9), 2);
        due("pointer", x.instance(1, 0, 3), 0);
    }

    @Holds(at = "Working", says = "first item of the first channel that is not stopped and whose queue is not empty")
    static void aChannelWithAnEmptyQueueIsPassedOver() {
        PipelineSimulator x = with("f(2,0)3", 1, 9, 4, 1);
        // the first record is dropped, the second comes through channel 1
        pushAll(x, 7, -1, 5);
        x.tick(4);
        due("taken", x.state(2, 7, 0), 5);
        due("behind channel 1", x.instance(2, 0, 3), 2);
    }

    @Holds(at = "Working", says = "first item of the first channel that is not stopped and whose queue is not empty")
    static void anOpenBatchIsNoItem() {
        PipelineSimulator x = with("", 2, 9, 2, 5);
        x.push(7, 1);
        x.tick(3);
        dueChannel(x, 0, 0, 0, 1, 1);
        due("nothing is taken", x.count(9), 0);
        due("idle", x.operator(1, 7), 3);
        dueLevels(x, 1, 0, 10, 4);
    }

    @Holds(at = "Working", says = "first item of the first channel that is not stopped and whose queue is not empty")
    static void aStoppedChannelIsPassedOver() {
        PipelineSimulator x = delayedBarrier();
        due("the barrier of instance 0 has come", x.instance(3, 0, 2), 1);
        x.tick(1);
        due("records wait behind it", x.channel(2, 0, 0, 0), 2);
        due("pointer", x.instance(3, 0, 3), 0);
        x.tick(1);
        dueState(x, 3, 7, 1 + 2 + 3, 3);
        dueState(x, 3, 0, NONE, NONE);
        due("the next one waits, too", x.channel(2, 0, 0, 0), 3);
        x.tick(1);
        due("none is stopped", x.instance(3, 0, 2), 0);
        x.tick(1);
        dueState(x, 3, 0, 50, 1);
    }
}
