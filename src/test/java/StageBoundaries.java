/** Boundaries of 'What it is', of the head of the description, and of Pipelines, Records and Stages. */
final class StageBoundaries extends Calls {
    private StageBoundaries() {
    }

    @Holds(at = "What it is", says = "An object is used for at most 512 calls")
    static void theLastOf512CallsIsAnswered() {
        PipelineSimulator x = new PipelineSimulator();
        x.push(3, 5);
        for (int i = 0; i < 255; i++) {
            due("tick(200)", x.tick(200), 4);
            due("fail()", x.fail(), 0);
        }
        due("the 512th call", x.latency(-1), 255);
    }

    @Holds(at = "What it is", says = "An object is used for at most 512 calls")
    static void aRunOfManyLongCallsIsAnswered() {
        PipelineSimulator x = with("c(3)|c(3)|c(3)|c(3)", 1, 9, 2, 1);
        pushMany(x, 5, -99, 60);
        int ticks = 0;
        for (int i = 0; i < 400; i++) {
            ticks += x.tick(200);
        }
        due("records in the sink", x.count(9), 60 * 81);
        due("count(3)", x.count(3), ticks);
        due("longer than a record for each tick", ticks > 4860 ? 1 : 0, 1);
        due("quiet", x.isQuiet(), 1);
    }

    @Holds(at = "Description", says = "All arithmetic on values is 32-bit arithmetic with overflow as in Java.")
    static void aMapWrapsAroundAboveTheGreatestValue() {
        // 97039800 * 99 + 99 is 9606940299, less 2 * 2^32
        dueResult("m(99,99)|m(99,99)|m(99,99)|m(99,99)", 1, 1, 1017005707, 1, 99);
        // 97029900 * 23 + 0 is 2231687700, less 2^32
        dueResult("m(99,99)|m(99,0)|m(99,0)|m(23,0)", 1, 1, -2063279596, 1, 99);
    }

    @Holds(at = "Description", says = "All arithmetic on values is 32-bit arithmetic with overflow as in Java.")
    static void aMapWrapsAroundBelowTheLeastValue() {
        dueResult("m(99,-99)|m(99,-99)|m(99,-99)|m(99,-99)", 1, 1, -1017005707, 1, -99);
        dueResult("m(99,-99)|m(99,0)|m(99,0)|m(23,0)", 1, 1, 2063279596, 1, -99);
    }

    @Holds(at = "Description", says = "All arithmetic on values is 32-bit arithmetic with overflow as in Java.")
    static void theSumOfTheSinkWrapsAround() {
        PipelineSimulator x = with("m(99,0)|m(99,0)|m(99,0)", 4, 1, 4, 5);
        // each one is 99 * 99 * 99 * 99 = 96059601; 22 of them are still below 2^31, 23 are not
        pushMany(x, 4, 99, 22);
        x.tick(200);
        dueState(x, 4, 4, 2113311222, 22);
        duePlain(x, 4, 2113311222, 22);
        x.push(4, 99);
        x.tick(200);
        dueState(x, 4, 4, -2085596473, 23);
        duePlain(x, 4, -2085596473, 23);
        x.push(4, -99);
        x.tick(200);
        dueState(x, 4, 4, 2113311222, 24);
        duePlain(x, 4, 2113311222, 24);
    }

    @Holds(at = "Pipelines", says = "operators 1 to n, the stages, where n is from 0 to 4; and operator n + 1, the sink.")
    static void aPipelineMayHaveNoStages() {
        PipelineSimulator x = reading("d");
        due("no stages", x.readPipeline(), 0);
        due("operators", x.count(0), 2);
        due("operator 1 is the sink", x.operator(1, 0), 8);
        due("no operator 2", x.operator(2, 0), NONE);
        x.push(3, 5);
        x.tick(200);
        dueState(x, 1, 3, 5, 1);
        duePlain(x, 3, 5, 1);
    }

    @Holds(at = "Pipelines", says = "operators 1 to n, the stages, where n is from 0 to 4; and operator n + 1, the sink.")
    static void aPipelineMayHaveFourStages() {
        PipelineSimulator x = new PipelineSimulator();
        due("four stages", read(x, "m(1,1)|m(1,1)|m(1,1)|d"), 4);
        due("operators", x.count(0), 6);
        due("operator 4 is a stage", x.operator(4, 0), 5);
        due("operator 5 is the sink", x.operator(5, 0), 8);
        due("no operator 6", x.operator(6, 0), NONE);
        x.push(3, 5);
        x.tick(200);
        dueState(x, 4, 3, 8, 0);
        dueState(x, 5, 3, 8, 1);
        duePlain(x, 3, 8, 1);
    }

    @Holds(at = "Pipelines", says = "operators 1 to n, the stages, where n is from 0 to 4; and operator n + 1, the sink.")
    static void aPipelineHasNoFifthStage() {
        PipelineSimulator x = new PipelineSimulator();
        due("five stages", read(x, "d|d|d|d|d"), -2007);
        due("operators", x.count(0), 2);
    }

    @Holds(at = "Pipelines", says = "An operator has 1 to 3 instances, numbered from 0; the source has one.")
    static void theInstancesOfAnOperatorAreNumberedFromZero() {
        PipelineSimulator x = reading("d|d3$3");
        due("below the first of one", x.instance(1, -1, 0), NONE);
        due("the first of one", x.instance(1, 0, 0), 0);
        due("behind the last of one", x.instance(1, 1, 0), NONE);
        for (int operator = 2; operator <= 3; operator++) {
            due("below the first of three", x.instance(operator, -1, 0), NONE);
            due("the first of three", x.instance(operator, 0, 0), 0);
            due("the last of three", x.instance(operator, 2, 0), 0);
            due("behind the last of three", x.instance(operator, 3, 0), NONE);
        }
    }

    @Holds(at = "Pipelines", says = "An operator has 1 to 3 instances, numbered from 0; the source has one.")
    static void theSourceHasOneInstanceAlone() {
        PipelineSimulator x = reading("d3$3");
        due("its number of instances", x.operator(0, 1), 1);
        due("its instance", x.instance(0, 0, 0), 0);
        due("no second one", x.instance(0, 1, 0), NONE);
        due("it is not rescaled", x.rescale(0, 2), NONE);
        due("its number of instances", x.operator(0, 1), 1);
    }

    @Holds(at = "Pipelines", says = "There is a channel from each instance of an operator to each instance of the next operator.")
    static void thereAreChannelsBetweenAllInstances() {
        PipelineSimulator x = reading("d3|d2$3");
        int[] sizes = {1, 3, 2, 3};
        for (int operator = 0; operator < 3; operator++) {
            for (int from = 0; from <= 3; from++) {
                for (int to = 0; to <= 3; to++) {
                    boolean there = from < sizes[operator] && to < sizes[operator + 1];
                    due("channel(" + operator + ", " + from + ", " + to + ", 4)", x.channel(operator, from, to, 4), there ? 2 : NONE);
                }
            }
        }
    }

    @Holds(at = "Pipelines", says = "There is a channel from each instance of an operator to each instance of the next operator.")
    static void thereIsNoChannelFromTheLastOperator() {
        PipelineSimulator x = new PipelineSimulator();
        due("from the source", x.channel(0, 0, 0, 4), 2);
        due("from the sink", x.channel(1, 0, 0, 4), NONE);
        read(x, "d|d|d|d");
        due("from the last stage", x.channel(4, 0, 0, 4), 2);
        due("from the sink", x.channel(5, 0, 0, 4), NONE);
    }

    @Holds(at = "Pipelines", says = "At first there are no stages, and the sink has one instance.")
    static void theFirstPipelineIsEmpty() {
        PipelineSimulator x = new PipelineSimulator();
        due("operators", x.count(0), 2);
        due("the sink", x.operator(1, 0), 8);
        due("its number of instances", x.operator(1, 1), 1);
        due("its instance", x.instance(1, 0, 0), 0);
        due("no second one", x.instance(1, 1, 0), NONE);
        due("no text", x.write(), 0);
    }

    @Holds(at = "Records", says = "A record has a key from 0 to 15 and a value.")
    static void theLeastAndTheGreatestKeyAreApart() {
        PipelineSimulator x = with("d", 1, 1, 4, 5);
        x.push(0, 4);
        x.push(15, 5);
        x.tick(200);
        dueState(x, 1, 0, 4, 0);
        dueState(x, 1, 15, 5, 0);
        dueState(x, 2, 0, 4, 1);
        dueState(x, 2, 15, 5, 1);
        duePlain(x, 0, 4, 1);
        duePlain(x, 15, 5, 1);
    }

    @Holds(at = "Records", says = "The input is a list of at most 60 records.")
    static void theInputIsFullWithSixtyRecords() {
        PipelineSimulator x = with("", 4, 1, 4, 5);
        pushMany(x, 2, 3, 59);
        due("the 60th", x.push(9, 8), 60);
        due("the 61st", x.push(9, 8), FULL);
        x.tick(200);
        due("all are emitted", x.count(2), 60);
        dueState(x, 1, 2, 177, 59);
        dueState(x, 1, 9, 8, 1);
        due("emitted ones are still in the list", x.push(9, 8), FULL);
    }

    @Holds(at = "Records", says = "The source has an offset, the number of records that it has emitted, at first 0.")
    static void theOffsetGoesFromZeroToTheNumberOfRecords() {
        PipelineSimulator x = with("", 1, 1, 4, 1);
        due("at first", x.count(2), 0);
        pushAll(x, 3, 1, 2);
        due("nothing is emitted yet", x.count(2), 0);
        x.tick(1);
        due("one is emitted", x.count(2), 1);
        x.tick(1);
        due("both are emitted", x.count(2), 2);
        x.tick(1);
        due("there is no third one", x.count(2), 2);
    }

    @Holds(at = "Stages", says = "filter: emits the record if v is less than b (a = 0)")
    static void aFilterForLessEndsBelowItsBound() {
        dueResult("f(0,5)", 2, 2, 4, 1, 4, 5, 6);
        dueResult("f(0,-99)", 2, 2, NONE, NONE, -99, -98);
    }

    @Holds(at = "Stages", says = "equal to b (a = 1)")
    static void aFilterForEqualLeavesTheNeighboursOut() {
        dueResult("f(1,5)", 2, 2, 5, 1, 4, 5, 6);
        dueResult("f(1,0)", 2, 2, 0, 1, -1, 0, 1);
    }

    @Holds(at = "Stages", says = "or greater than b (a = 2)")
    static void aFilterForGreaterBeginsAboveItsBound() {
        dueResult("f(2,5)", 2, 2, 6, 1, 4, 5, 6);
        dueResult("f(2,99)", 2, 2, NONE, NONE, 98, 99);
    }

    @Holds(at = "Stages", says = "rekey: emits the record with the key k * a + b modulo 16, which is from 0 to 15")
    static void aKeyAboveFifteenWrapsAround() {
        dueResult("k(1,1)", 14, 15, 7, 1, 7);
        dueResult("k(1,1)", 15, 0, 7, 1, 7);
        dueResult("k(1,16)", 15, 15, 7, 1, 7);
        // 15 * 99 + 99 = 1584 = 99 * 16; 14 * 99 + 99 = 1485 = 92 * 16 + 13
        dueResult("k(99,99)", 15, 0, 7, 1, 7);
        dueResult("k(99,99)", 14, 13, 7, 1, 7);
    }

    @Holds(at = "Stages", says = "rekey: emits the record with the key k * a + b modulo 16, which is from 0 to 15")
    static void aKeyBelowZeroWrapsAround() {
        dueResult("k(1,-1)", 1, 0, 7, 1, 7);
        dueResult("k(1,-1)", 0, 15, 7, 1, 7);
        dueResult("k(-1,0)", 15, 1, 7, 1, 7);
        dueResult("k(0,-16)", 15, 0, 7, 1, 7);
        dueResult("k(-99,-99)", 15, 0, 7, 1, 7);
        dueResult("k(-99,-99)", 14, 3, 7, 1, 7);
    }

    @Holds(at = "Stages", says = "copies: emits a records: (k, v), (k, v + 1) and so on")
    static void noCopiesAreEmittedForZero() {
        dueResult("c(0)", 5, 5, NONE, NONE, 1, 2);
        PipelineSimulator x = quiet("c(0)", 5, 1, 2);
        due("processed", x.operator(1, 4), 2);
        due("emitted", x.operator(1, 5), 0);
    }

    @Holds(at = "Stages", says = "copies: emits a records: (k, v), (k, v + 1) and so on")
    static void theFirstCopyIsTheValueAndThereAreNoMore() {
        dueResult("c(1)", 5, 5, 7, 1, 7);
        dueResult("c(3)", 5, 5, 7 + 8 + 9, 3, 7);
        PipelineSimulator x = quiet("c(3)|d", 5, 7);
        dueState(x, 2, 5, 9, 0);
    }

    @Holds(at = "Stages", says = "when the number is a, emits (k, sum) and removes the state of k")
    static void aSumOfOneIsEmittedAtOnce() {
        dueResult("s(1)", 5, 5, 11, 2, 4, 7);
        dueState(quiet("s(1)", 5, 4, 7), 1, 5, NONE, NONE);
    }

    @Holds(at = "Stages", says = "when the number is a, emits (k, sum) and removes the state of k")
    static void aSumIsEmittedWhenItIsFull() {
        PipelineSimulator x = quiet("s(5)", 5, 1, 2, 3, 4);
        dueState(x, 1, 5, 10, 4);
        dueState(x, 2, 5, NONE, NONE);
        x.push(5, 90);
        x.tick(200);
        dueState(x, 1, 5, NONE, NONE);
        dueState(x, 2, 5, 100, 1);
        x.push(5, 7);
        x.tick(200);
        dueState(x, 1, 5, 7, 1);
        dueState(x, 2, 5, 100, 1);
        duePlain(x, 5, 100, 1);
    }

    @Holds(at = "Stages", says = "adds v to the sum of k and 1 to the number of k")
    static void aSumOfZeroIsStillAState() {
        PipelineSimulator x = quiet("s(3)", 5, 4, -4);
        dueState(x, 1, 5, 0, 2);
        due("keys", x.instance(1, 0, 5), 1);
    }

    @Holds(at = "Stages", says = "changes: emits the record unless the latest value of k is v")
    static void theFirstValueOfAKeyIsAChange() {
        dueResult("d", 5, 5, 0, 1, 0);
        dueResult("d", 5, 5, -1, 1, -1);
    }

    @Holds(at = "Stages", says = "changes: emits the record unless the latest value of k is v")
    static void theSameValueOnceMoreIsNoChange() {
        dueResult("d", 5, 5, 7, 1, 7, 7, 7);
        dueResult("d", 5, 5, 7 + 8 + 7, 3, 7, 8, 8, 7);
        PipelineSimulator x = with("d", 1, 1, 4, 5);
        pushAll(x, 5, 7);
        pushAll(x, 6, 7);
        x.tick(200);
        due("another key", x.count(9), 2);
    }

    @Holds(at = "Stages", says = "records: emits the record if k has no greatest value or v is greater than it")
    static void theFirstValueOfAKeyIsARecord() {
        dueResult("r", 5, 5, -99, 1, -99);
        dueResult("r", 5, 5, 0, 1, 0);
    }

    @Holds(at = "Stages", says = "records: emits the record if k has no greatest value or v is greater than it")
    static void anEqualValueIsNoRecord() {
        dueResult("r", 5, 5, 7, 1, 7, 7);
        dueResult("r", 5, 5, 7 + 8, 2, 7, 8, 8);
        dueResult("r", 5, 5, 7, 1, 7, 6, 7);
        dueState(quiet("r", 5, 7, 6), 1, 5, 7, 0);
    }

    private static void dueKeyed(String stage, int first, int second) {
        PipelineSimulator x = with(stage, 4, 9, 4, 5);
        pushAll(x, 7, 1, 2);
        x.tick(1);
        due(stage + " instance 0", x.channel(0, 0, 0, 2), first);
        due(stage + " instance 1", x.channel(0, 0, 1, 2), second);
        due(stage + " counter", x.instance(0, 0, 4), first == 0 ? 0 : 2);
    }

    @Holds(at = "Stages", says = "The kinds 4 to 6 and the sink are keyed: they have states for keys.")
    static void theKindsBelowFourAreNotKeyed() {
        dueKeyed("m(1,0)2", 1, 1);
        dueKeyed("f(2,0)2", 1, 1);
        dueKeyed("k(1,0)2", 1, 1);
        dueKeyed("c(1)2", 1, 1);
        dueState(quiet("c(1)", 5, 7), 1, 5, NONE, NONE);
    }

    @Holds(at = "Stages", says = "The kinds 4 to 6 and the sink are keyed: they have states for keys.")
    static void theKindsFromFourAreKeyed() {
        dueKeyed("s(5)2", 0, 2);
        dueKeyed("d2", 0, 2);
        dueKeyed("r2", 0, 2);
        dueKeyed("$2", 0, 2);
    }

    @Holds(at = "Stages", says = "the latest or greatest value and 0 for kinds 5 and 6")
    static void theSecondNumberOfChangesAndRecordsIsZero() {
        dueState(quiet("d", 5, 7, 8), 1, 5, 8, 0);
        dueState(quiet("r", 5, 7, 8), 1, 5, 8, 0);
    }

    @Holds(at = "Stages", says = "A key has no state until a record needs one.")
    static void aKeyHasNoStateBeforeItsFirstRecord() {
        PipelineSimulator x = with("d", 1, 1, 4, 5);
        x.push(5, 0);
        dueState(x, 1, 5, NONE, NONE);
        x.tick(1);
        dueState(x, 1, 5, NONE, NONE);
        due("keys", x.instance(1, 0, 5), 0);
        x.tick(1);
        dueState(x, 1, 5, 0, 0);
        due("keys", x.instance(1, 0, 5), 1);
        dueState(x, 2, 5, NONE, NONE);
        x.tick(1);
        dueState(x, 2, 5, 0, 1);
        dueState(x, 2, 4, NONE, NONE);
    }

    @Holds(at = "Stages", says = "a record with key k goes to its instance floor((k modulo 8) * p / 8)")
    static void aKeyGoesToItsInstance() {
        String[] owners = {"00000000", "00001111", "00011122"};
        for (int p = 1; p <= 3; p++) {
            for (int key = 0; key < 16; key++) {
                PipelineSimulator x = with("$" + p, 1, 1, 2, 1);
                x.push(key, 1);
                x.tick(1);
                int owner = owners[p - 1].charAt(key % 8) - '0';
                due("key " + key + " of " + p, x.channel(0, 0, owner, 2), 1);
            }
        }
    }

    @Holds(at = "Stages", says = "a record with key k goes to its instance floor((k modulo 8) * p / 8)")
    static void theKeyEightWrapsAroundToTheFirstInstance() {
        PipelineSimulator x = with("d3", 4, 9, 4, 5);
        for (int key = 7; key <= 8; key++) {
            x.push(key, 1);
        }
        x.tick(2);
        due("key 7 at the last one", x.channel(0, 0, 2, 2), 1);
        due("key 8 at the first one", x.channel(0, 0, 0, 2), 1);
    }

    @Holds(at = "Stages", says = "each has a counter, at first 0, and sends to the instance counter modulo p")
    static void theCounterWrapsAroundBehindTheLastInstance() {
        PipelineSimulator x = with("c(1)3", 4, 9, 4, 1);
        pushAll(x, 0, 1, 2, 3, 4);
        due("at first", x.instance(0, 0, 4), 0);
        int[][] sent = {{1, 0, 0}, {1, 1, 0}, {1, 1, 1}, {2, 1, 1}};
        for (int i = 0; i < sent.length; i++) {
            x.tick(1);
            due("counter", x.instance(0, 0, 4), i + 1);
            for (int to = 0; to < 3; to++) {
                due("sent to " + to + " after " + (i + 1), x.channel(0, 0, to, 2), sent[i][to]);
            }
        }
    }

    @Holds(at = "Stages", says = "then the counter is increased by 1")
    static void theCounterGoesOnBehindTheNumberOfInstances() {
        PipelineSimulator x = with("c(1)", 4, 1, 4, 5);
        pushMany(x, 0, 1, 60);
        x.tick(200);
        due("the counter of the source", x.instance(0, 0, 4), 60);
        due("before a keyed one there is no counting", x.instance(1, 0, 4), 0);
    }
}
