/** What the tests share: short ways to bring an object into a state, and to say which answer is due. */
abstract class Calls {
    static final int NONE = -1000000001;
    static final int BAD = -1000000002;
    static final int FULL = -1000000003;
    static final int BEGUN = -1000000004;
    static final int BUSY = -1000000005;
    static final int[] FAR = {-1, Integer.MIN_VALUE, Integer.MAX_VALUE};
    private static int wrong = 0;
    private static String place = "";

    static void about(String newPlace) {
        place = newPlace;
    }

    static void due(String call, int got, int want) {
        if (got != want) {
            wrong(call + " answered " + got + ", due is " + want);
        }
    }

    static void wrong(String story) {
        wrong++;
        System.out.println(place + ": " + story);
    }

    static void exitIfWrong() {
        if (wrong > 0) {
            System.exit(1);
        }
    }

    static int type(PipelineSimulator x, String text) {
        int length = 0;
        for (int i = 0; i < text.length(); i++) {
            length = x.append(text.charAt(i), 1);
        }
        return length;
    }

    static int read(PipelineSimulator x, String text) {
        type(x, text);
        return x.readPipeline();
    }

    static PipelineSimulator reading(String text) {
        PipelineSimulator x = new PipelineSimulator();
        read(x, text);
        return x;
    }

    static PipelineSimulator with(String text, int size, int age, int credits, int rate) {
        PipelineSimulator x = reading(text);
        x.configure(size, age, credits, rate);
        return x;
    }

    static void pushAll(PipelineSimulator x, int key, int... values) {
        for (int value : values) {
            x.push(key, value);
        }
    }

    static void pushMany(PipelineSimulator x, int key, int value, int times) {
        for (int i = 0; i < times; i++) {
            x.push(key, value);
        }
    }

    /** A pipeline that is quiet again after it has processed the values. */
    static PipelineSimulator quiet(String text, int key, int... values) {
        PipelineSimulator x = with(text, 1, 1, 4, 5);
        pushAll(x, key, values);
        x.tick(200);
        return x;
    }

    /** The source after its first tick: two records in the queue, one in the open batch, one in the list, the rest in the input. */
    static PipelineSimulator blockedSource(int records) {
        PipelineSimulator x = with("", 1, 3, 2, 5);
        for (int i = 1; i <= records; i++) {
            x.push(3, i);
        }
        x.tick(1);
        return x;
    }

    /** The sink has taken the barrier of one stage instance, while the other one still has records before its barrier. */
    static PipelineSimulator aligning() {
        PipelineSimulator x = with("c(3)|s(5)2", 1, 9, 4, 1);
        x.push(7, 1);
        x.tick(1);
        x.checkpoint();
        x.tick(4);
        return x;
    }

    /** The barrier of instance 0 has come to the sink, with records behind it; instance 1 still has records before its barrier. */
    static PipelineSimulator delayedBarrier() {
        PipelineSimulator x = with("c(3)|d2", 1, 9, 4, 1);
        x.push(7, 1);
        x.tick(1);
        x.checkpoint();
        x.push(0, 50);
        x.tick(4);
        return x;
    }

    /** Down from the source to an instance that aligns, up to the one that it waits for, and down again to the sink. */
    static PipelineSimulator eightLevels() {
        PipelineSimulator x = with("c(3)|d2|d2|c(1)2", 1, 2, 2, 2);
        for (int i = 0; i < 60; i++) {
            x.push(i * 13 % 16, i);
        }
        x.tick(25);
        x.checkpoint();
        x.tick(12);
        return x;
    }

    static void completeCheckpoint(PipelineSimulator x) {
        x.checkpoint();
        x.tick(200);
    }

    static String textOf(PipelineSimulator x) {
        StringBuilder text = new StringBuilder();
        int length = x.write();
        for (int i = 0; i < length; i++) {
            text.append((char) x.written(i));
        }
        return text.toString();
    }

    static void dueText(PipelineSimulator x, String want) {
        String got = textOf(x);
        if (!got.equals(want)) {
            wrong("wrote " + got + ", due is " + want);
        }
    }

    static void dueState(PipelineSimulator x, int operator, int key, int first, int second) {
        due("state(" + operator + ", " + key + ", 0)", x.state(operator, key, 0), first);
        due("state(" + operator + ", " + key + ", 1)", x.state(operator, key, 1), second);
    }

    static void dueSaved(PipelineSimulator x, int operator, int key, int first, int second) {
        due("savedState(" + operator + ", " + key + ", 0)", x.savedState(operator, key, 0), first);
        due("savedState(" + operator + ", " + key + ", 1)", x.savedState(operator, key, 1), second);
    }

    static void duePlain(PipelineSimulator x, int key, int first, int second) {
        due("plain(" + key + ", 0)", x.plain(key, 0), first);
        due("plain(" + key + ", 1)", x.plain(key, 1), second);
    }

    /** The sink's state of a key, and the plain result, which is the same when the pipeline has one way alone. */
    static void dueResult(String text, int key, int sinkKey, int sum, int number, int... values) {
        PipelineSimulator x = quiet(text, key, values);
        due(text + " sum", x.state(x.count(0) - 1, sinkKey, 0), sum);
        due(text + " number", x.state(x.count(0) - 1, sinkKey, 1), number);
        due(text + " plain sum", x.plain(sinkKey, 0), sum);
        due(text + " plain number", x.plain(sinkKey, 1), number);
    }

    static void dueCounts(PipelineSimulator x, int... counts) {
        for (int what = 0; what < counts.length; what++) {
            due("count(" + what + ")", x.count(what), counts[what]);
        }
    }

    /** The levels are given as place, reason, place, reason .. */
    static void dueLevels(PipelineSimulator x, int operator, int instance, int... levels) {
        String call = "explain(" + operator + ", " + instance + ")";
        due(call, x.explain(operator, instance), levels.length / 2);
        for (int i = 0; i < levels.length; i += 2) {
            due(call + " place " + i / 2, x.explanation(i / 2, 0), levels[i]);
            due(call + " reason " + i / 2, x.explanation(i / 2, 1), levels[i + 1]);
        }
        due(call + " has no more", x.explanation(levels.length / 2, 0), NONE);
    }
}
