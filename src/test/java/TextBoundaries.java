/** Boundaries of Text and Particulars, and the constants. */
final class TextBoundaries extends Calls {
    private static final String LONGEST = "m(-99,-99)3|m(-99,-99)3|m(-99,-99)3|m(-99,-99)3$3";

    private TextBoundaries() {
    }

    private static void dueStages(String text, int stages) {
        due("reading '" + text + "'", read(new PipelineSimulator(), text), stages);
    }

    private static void dueError(String text, int offset) {
        due("reading '" + text + "'", read(new PipelineSimulator(), text), -2000 - offset);
    }

    /** Each text, and where its error is. */
    private static void dueErrors(Object... textsAndOffsets) {
        for (int i = 0; i < textsAndOffsets.length; i += 2) {
            dueError((String) textsAndOffsets[i], (Integer) textsAndOffsets[i + 1]);
        }
    }

    private static void dueOperator(String text, int a, int b, int instances) {
        PipelineSimulator x = new PipelineSimulator();
        due("reading " + text, read(x, text), 1);
        due("a of " + text, x.operator(1, 2), a);
        due("b of " + text, x.operator(1, 3), b);
        due("instances of " + text, x.operator(1, 1), instances);
    }

    @Holds(at = "Text", says = "A text of at most 60 characters describes a pipeline.")
    static void aTextOfSixtyCharactersIsReadAndMoreAreRefused() {
        PipelineSimulator x = new PipelineSimulator();
        due("the longest pipeline", type(x, LONGEST), 49);
        due("eleven more", x.append('x', 11), 60);
        due("one more", x.append('x', 1), FULL);
        due("the 60 are read", x.readPipeline(), -2049);
        due("the longest pipeline", read(x, LONGEST), 4);
        due("60 at once", x.append('d', 60), 60);
        due("one more", x.append('d', 1), FULL);
        due("the 60 are read", x.readPipeline(), -2001);
    }

    @Holds(at = "Text", says = "pipeline: [ stage { \"|\" stage } ] [ \"$\" digit ]")
    static void anEmptyTextIsAPipeline() {
        PipelineSimulator x = reading("d|d$3");
        due("the empty text", x.readPipeline(), 0);
        due("operators", x.count(0), 2);
        due("instances of the sink", x.operator(1, 1), 1);
    }

    @Holds(at = "Text", says = "pipeline: [ stage { \"|\" stage } ] [ \"$\" digit ]")
    static void theSinkMayStandAlone() {
        PipelineSimulator x = new PipelineSimulator();
        due("no stages", read(x, "$3"), 0);
        due("instances of the sink", x.operator(1, 1), 3);
        dueStages("d$3", 1);
        dueErrors("$3$3", 2, "$3d", 2, "$3|d", 2, "d$", 2, "|$3", 0, "d|$3", 2);
    }

    @Holds(at = "Text", says = "stage: letter [ \"(\" number [ \",\" number ] \")\" ] [ digit ]")
    static void aStageMayBeOneLetter() {
        dueOperator("d", 0, 0, 1);
        dueOperator("r", 0, 0, 1);
        dueErrors("|", 0, "|d", 0, "d|", 2, "d||d", 2, "d d", 1, "dd", 1, "1", 0, "(", 0);
    }

    @Holds(at = "Text", says = "number: [ \"-\" ] digit [ digit ]")
    static void aNumberHasOneOrTwoDigits() {
        dueOperator("m(1,2)", 1, 2, 1);
        dueOperator("m(10,23)", 10, 23, 1);
        dueOperator("m(-1,-2)", -1, -2, 1);
        dueOperator("m(-10,-23)", -10, -23, 1);
        dueErrors("m(,2)", 2, "m(1,)", 4, "m(-,2)", 3, "m(1,-)", 5, "m(--1,2)", 3, "m(+1,2)", 2, "c(-)", 3, "c()", 2);
    }

    @Holds(at = "Text", says = "A number has a second digit if a digit follows the first one.")
    static void aNumberHasNoThirdDigit() {
        dueOperator("m(99,-99)", 99, -99, 1);
        dueErrors("m(100,1)", 4, "m(-100,1)", 5, "m(1,100)", 6, "m(1,-100)", 7, "k(000,0)", 4);
    }

    @Holds(at = "Text", says = "The letters are m, f, k, c, s, d and r for the kinds 0 to 6.")
    static void eachLetterHasItsKindAndOthersHaveNone() {
        String[] stages = {"m(0,0)", "f(0,0)", "k(0,0)", "c(0)", "s(1)", "d", "r"};
        for (int kind = 0; kind < stages.length; kind++) {
            PipelineSimulator x = reading(stages[kind]);
            due("kind of " + stages[kind], x.operator(1, 0), kind);
        }
        int letters = 0;
        for (char sign = 0; sign < 128; sign++) {
            int answer = read(new PipelineSimulator(), String.valueOf(sign));
            letters += answer == -2000 ? 0 : 1;
        }
        due("the seven letters and $ can begin a pipeline", letters, 8);
        dueErrors("M(0,0)", 0, "D", 0, "e", 0, "\0", 0, "\u007f", 0);
    }

    @Holds(at = "Text", says = "m, k and f have two numbers, a and b")
    static void twoNumbersAreNeitherOneNorThree() {
        for (char letter : "mkf".toCharArray()) {
            dueStages(letter + "(1,1)", 1);
            dueErrors(letter + "", 1, letter + "3", 1, letter + "|d", 1, letter + "()", 2, letter + "(1)", 3, letter + "(1,1,1)", 5);
        }
    }

    @Holds(at = "Text", says = "c and s have one")
    static void oneNumberIsNeitherNoneNorTwo() {
        for (char letter : "cs".toCharArray()) {
            dueStages(letter + "(1)", 1);
            dueErrors(letter + "", 1, letter + "3", 1, letter + "|d", 1, letter + "()", 2, letter + "(1,1)", 3);
        }
    }

    @Holds(at = "Text", says = "d and r have none, and no parentheses")
    static void noNumberMeansNoParentheses() {
        for (char letter : "dr".toCharArray()) {
            dueStages(letter + "", 1);
            dueErrors(letter + "()", 1, letter + "(1)", 1, letter + "(", 1);
        }
    }

    @Holds(at = "Text", says = "For f, a is from 0 to 2")
    static void theLeastAndTheGreatestFilter() {
        dueOperator("f(0,-99)", 0, -99, 1);
        dueOperator("f(2,99)", 2, 99, 1);
        dueOperator("f(-0,0)", 0, 0, 1);
        dueErrors("f(-1,0)", 4, "f(3,0)", 3, "f(-2,0)", 4, "f(10,0)", 4, "f(20,0)", 4, "f(99,0)", 4);
    }

    @Holds(at = "Text", says = "for c, from 0 to 3")
    static void theLeastAndTheGreatestNumberOfCopies() {
        dueOperator("c(0)", 0, 0, 1);
        dueOperator("c(3)", 3, 0, 1);
        dueOperator("c(-0)", 0, 0, 1);
        dueErrors("c(-1)", 4, "c(4)", 3, "c(-3)", 4, "c(10)", 4, "c(30)", 4, "c(99)", 4);
    }

    @Holds(at = "Text", says = "for s, from 1 to 5")
    static void theLeastAndTheGreatestNumberOfASum() {
        dueOperator("s(1)", 1, 0, 1);
        dueOperator("s(5)", 5, 0, 1);
        dueErrors("s(0)", 3, "s(6)", 3, "s(-0)", 4, "s(-1)", 4, "s(-5)", 4, "s(00)", 4, "s(10)", 4, "s(50)", 4);
    }

    @Holds(at = "Text", says = "A digit after a stage is the number of its instances, from 1 to 3")
    static void theLeastAndTheGreatestNumberOfInstances() {
        dueOperator("d1", 0, 0, 1);
        dueOperator("d3", 0, 0, 3);
        dueOperator("m(1,2)1", 1, 2, 1);
        dueOperator("m(1,2)3", 1, 2, 3);
        dueErrors("d0", 1, "d4", 1, "d9", 1, "d-1", 1, "d01", 1, "d11", 2, "d33", 2, "c(1)0", 4, "c(1)4", 4, "d|d4", 3);
    }

    @Holds(at = "Text", says = "and the digit after $ that of the sink")
    static void theLeastAndTheGreatestNumberOfInstancesOfTheSink() {
        due("least", reading("$1").operator(1, 1), 1);
        due("greatest", reading("$3").operator(1, 1), 3);
        dueErrors("$0", 1, "$4", 1, "$9", 1, "$-1", 1, "$11", 2, "$33", 2, "d$0", 2, "d$4", 2);
    }

    @Holds(at = "Text", says = "without it, there is one")
    static void aMissingNumberOfInstancesIsOne() {
        PipelineSimulator x = reading("d3|d2$3");
        read(x, "c(1)|d");
        for (int operator = 1; operator <= 3; operator++) {
            due("instances of " + operator, x.operator(operator, 1), 1);
        }
    }

    @Holds(at = "Text", says = "The error offset of a text is the offset of the first character that cannot continue a pipeline")
    static void theErrorIsAtTheFirstCharacterThatCannotContinue() {
        dueErrors("x", 0, " d", 0, "d ", 1, "d|x", 2, "m[1,2)", 1, "m(a,1)", 2, "m(1;2)", 3, "m(1,a)", 4, "m(1,2]", 5,
            "d|m(1,2)|c(x", 11, "$x", 1, "d$2d", 3, "d\0", 1, "$1\0", 2, "dx|y", 1);
    }

    @Holds(at = "Text", says = "or the length of the text if it ends too early")
    static void theErrorOfATextThatEndsTooEarlyIsItsLength() {
        dueErrors("m", 1, "m(", 2, "m(-", 3, "m(1", 3, "m(12", 4, "m(12,", 5, "m(12,-", 6, "m(12,-3", 7, "c(3", 3, "s(", 2, "f(2,", 4,
            "d|", 2, "d|d|d|", 6, "$", 1, "d$", 2);
    }

    @Holds(at = "Text", says = "a number that is out of range has its error offset at the character after it")
    static void theErrorOfANumberOutOfRangeIsBehindIt() {
        dueErrors("c(4)", 3, "c(4x", 3, "c(40)", 4, "c(400)", 4, "c(-1)", 4, "c(04)", 4, "f(3,1)", 3, "f(33,1)", 4, "s(6)", 3, "d|s(-5)", 6);
    }

    @Holds(at = "Text", says = "a number that is out of range has its error offset at the character after it")
    static void theErrorOfANumberOutOfRangeMayBeTheLength() {
        dueErrors("c(4", 3, "c(40", 4, "c(-1", 4, "f(3", 3, "f(-1", 4, "s(0", 3, "s(00", 4);
    }

    @Holds(at = "Text", says = "the | before a fifth stage cannot continue a pipeline")
    static void theErrorOfAFifthStageIsBeforeIt() {
        dueStages("d|d|d|d", 4);
        dueStages("d|d|d|d$2", 4);
        dueErrors("d|d|d|d|d", 7, "d|d|d|d|", 7, "d|d|d|d|x", 7, "d1|d2|d3|c(1)|d", 13, "d|d|d|d||", 7);
    }

    @Holds(at = "Particulars", says = "A checkpoint saves the counter of the source as it is then, also while records in its list are still to be sent.")
    static void theCounterIsSavedWhileTheListIsNotEmpty() {
        PipelineSimulator x = with("m(1,0)", 1, 9, 2, 5);
        pushAll(x, 1, 1, 2, 3, 4, 5, 6);
        x.tick(1);
        due("one is left in the list", x.instance(0, 0, 0), 1);
        due("counter", x.instance(0, 0, 4), 3);
        due("offset", x.count(2), 4);
        completeCheckpoint(x);
        due("counter", x.instance(0, 0, 4), 6);
        x.fail();
        due("counter as it was", x.instance(0, 0, 4), 3);
        due("offset as it was", x.count(2), 4);
        dueState(x, 2, 1, 1 + 2 + 3 + 4, 4);
    }

    @Holds(at = "Particulars", says = "Taking a barrier decreases the budget like taking a record.")
    static void aBarrierUsesUpABudgetOfOne() {
        PipelineSimulator x = with("d", 1, 9, 4, 1);
        x.checkpoint();
        x.push(3, 5);
        x.tick(1);
        due("barrier and record", x.channel(0, 0, 0, 0), 2);
        x.tick(1);
        due("the record is left", x.channel(0, 0, 0, 0), 1);
        due("not idle", x.operator(1, 7), 1);
        PipelineSimulator y = with("", 1, 9, 4, 2);
        y.checkpoint();
        pushAll(y, 3, 5, 6);
        y.tick(2);
        due("the sink took the barrier and one record", y.count(9), 1);
    }

    @Holds(at = "Particulars", says = "An instance that cannot send its list is blocked, also if its budget is 0.")
    static void anInstanceWithoutBudgetIsBlockedByItsList() {
        PipelineSimulator x = with("", 1, 3, 2, 4);
        pushAll(x, 3, 1, 2, 3, 4);
        x.tick(1);
        due("all four of the budget were taken", x.count(2), 4);
        due("one is left in the list", x.instance(0, 0, 0), 1);
        due("blocked", x.operator(0, 6), 1);
        due("not idle", x.operator(0, 7), 0);
    }

    @Holds(at = "Particulars", says = "Reading a pipeline and clearing leave the latest explanation and the written text.")
    static void readingAndClearingLeaveTheExplanationAndTheWrittenText() {
        PipelineSimulator x = with("d2", 1, 9, 2, 5);
        pushAll(x, 7, 1, 2, 3, 4);
        x.tick(1);
        due("levels", x.explain(0, 0), 2);
        due("length", x.write(), 2);
        for (int i = 0; i < 3; i++) {
            due("place", x.explanation(1, 0), 11);
            due("reason", x.explanation(0, 1), 1);
            due("no more levels", x.explanation(2, 0), NONE);
            due("first character", x.written(0), 'd');
            due("second character", x.written(1), '2');
            due("no more characters", x.written(2), NONE);
            if (i == 0) {
                x.clear();
            } else {
                x.readPipeline();
            }
        }
    }

    @Holds(at = "Particulars", says = "A failure, and a change of the number of instances, alone do not begin.")
    static void aFailureAndRescalingDoNotBegin() {
        PipelineSimulator x = new PipelineSimulator();
        x.fail();
        due("after a failure", x.configure(1, 2, 3, 4), 2322);
        x.rescale(1, 3);
        due("after rescaling", x.configure(2, 3, 2, 2), 1234);
        due("a quiet pipeline performs no tick", x.tick(200), 0);
        due("after no tick", x.configure(1, 2, 3, 4), 2322);
    }

    @Holds(at = "Particulars", says = "the counters of the operators before it are those of the checkpoint")
    static void theCountersBeforeARescaledOperatorAreOfTheCheckpoint() {
        PipelineSimulator x = with("c(1)2|c(1)3", 1, 1, 4, 5);
        pushAll(x, 3, 1, 2, 3);
        x.tick(200);
        completeCheckpoint(x);
        pushAll(x, 3, 4, 5, 6, 7);
        x.tick(200);
        due("counter of the source", x.instance(0, 0, 4), 7);
        due("counter of instance 0", x.instance(1, 0, 4), 4);
        due("counter of instance 1", x.instance(1, 1, 4), 3);
        x.rescale(2, 1);
        due("counter of the source", x.instance(0, 0, 4), 3);
        due("counter of instance 0", x.instance(1, 0, 4), 2);
        due("counter of instance 1", x.instance(1, 1, 4), 1);
    }

    @Holds(at = "Particulars", says = "Barriers are not counted among the records that were processed.")
    static void noBarrierIsProcessedOrEmitted() {
        PipelineSimulator x = with("d", 1, 1, 2, 1);
        completeCheckpoint(x);
        completeCheckpoint(x);
        for (int operator = 0; operator <= 2; operator++) {
            due("processed by " + operator, x.operator(operator, 4), 0);
            due("emitted by " + operator, x.operator(operator, 5), 0);
        }
        due("no latency", x.latency(-1), NONE);
        x.checkpoint();
        due("no record in a list", x.count(8), 0);
        x.tick(1);
        due("no record in a channel", x.count(7), 0);
    }

    @Holds(at = "Particulars", says = "Numbers may begin with 0.")
    static void aZeroMayStandBeforeADigit() {
        dueOperator("m(01,-02)", 1, -2, 1);
        dueOperator("m(00,-00)", 0, 0, 1);
        dueOperator("f(02,09)", 2, 9, 1);
        dueOperator("c(03)2", 3, 0, 2);
        dueOperator("s(05)", 5, 0, 1);
        dueText(reading("k(07,-08)"), "k(7,-8)");
    }

    @Holds(at = "The constants", says = "`NONE = -1000000001`: There is no such object.")
    static void theConstantNone() {
        due("NONE", PipelineSimulator.NONE, NONE);
        due("no such object", new PipelineSimulator().operator(2, 0), PipelineSimulator.NONE);
    }

    @Holds(at = "The constants", says = "`BAD_ARGUMENT = -1000000002`: An argument is outside its range.")
    static void theConstantBadArgument() {
        due("BAD_ARGUMENT", PipelineSimulator.BAD_ARGUMENT, BAD);
        due("outside its range", new PipelineSimulator().tick(0), PipelineSimulator.BAD_ARGUMENT);
    }

    @Holds(at = "The constants", says = "`FULL = -1000000003`: A limit would be exceeded.")
    static void theConstantFull() {
        due("FULL", PipelineSimulator.FULL, FULL);
        PipelineSimulator x = new PipelineSimulator();
        x.append('d', 60);
        due("a limit", x.append('d', 1), PipelineSimulator.FULL);
    }

    @Holds(at = "The constants", says = "`BEGUN = -1000000004`: There was a tick or a checkpoint since the simulation began.")
    static void theConstantBegun() {
        due("BEGUN", PipelineSimulator.BEGUN, BEGUN);
        PipelineSimulator x = new PipelineSimulator();
        x.checkpoint();
        due("a checkpoint", x.configure(1, 1, 2, 1), PipelineSimulator.BEGUN);
    }

    @Holds(at = "The constants", says = "`BUSY = -1000000005`: A checkpoint is running.")
    static void theConstantBusy() {
        due("BUSY", PipelineSimulator.BUSY, BUSY);
        PipelineSimulator x = new PipelineSimulator();
        x.checkpoint();
        due("a checkpoint is running", x.checkpoint(), PipelineSimulator.BUSY);
    }
}
