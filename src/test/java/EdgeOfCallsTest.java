import java.util.function.LongSupplier;

/** The edges of 4 CALLS and of the promises: a test for each sentence that names one, in the document's order. */
public final class EdgeOfCallsTest {
    private static final long START = WatermarkJoin.START;
    private static final long END = WatermarkJoin.END;
    private static final long MOST = 100_000_000_000_000_000L;
    private static final int BAD = WatermarkJoin.BAD;
    private static final int GONE = WatermarkJoin.GONE;
    private static final int STOPPED = WatermarkJoin.STOPPED;
    private static final int FULL = WatermarkJoin.FULL;
    private static final int PAST = WatermarkJoin.PAST;
    private static final int[] FAR = {Integer.MIN_VALUE, -1, 12, 1 << 30, Integer.MAX_VALUE};
    /** A stream of each kind: 0 and 1 sources, 2 union, 3 delay, 4 hold, 5 and 6 window and source, 7 join. */
    private static final String ALL_KINDS = "a=source 2 marks;b=source 1 lag 0;c=union a b;d=delay c 1;e=hold d;"
        + "f=window e size 2 step 2;g=source 4 marks;h=join f g from 0 to 0;";

    private static WatermarkJoin nothingBuilt(int how) {
        WatermarkJoin x = new WatermarkJoin();
        if (how == 1) {
            Check.build(x, "a=source 1 marks;h=hold q;");
        }
        if (how == 2) {
            Check.feed(x, "a=source 1 marks;");
        }
        return x;
    }

    /** "BAD .. nothing was built": in a new object, behind a text with a fault, and with a text that is not read yet. */
    private static void nothingBuilt() {
        for (int how = 0; how < 3; how++) {
            WatermarkJoin x = nothingBuilt(how);
            Check.due("row", BAD, x.row(0, 0, 0, 0));
            Check.due("mark", BAD, x.mark(0, 0, 0));
            Check.due("end", BAD, x.end(0, 0));
            Check.due("idle", BAD, x.idle(0, 0, true));
            Check.due("idle", BAD, x.idle(0, 0, false));
            Check.due("turn", BAD, x.turn(1));
            Check.due("hold", BAD, x.hold(0, 0));
            Check.due("release", BAD, x.release(0, false, 0));
            Check.due("release", BAD, x.release(0, true, 0));
            Check.due("part", BAD, x.part(0, 0));
            Check.due("print", BAD, x.print());
            Check.due("letter", BAD, x.letter(0));
            for (int stream : new int[] {0, -1, 12}) {
                Check.throwsState("watermark", () -> x.watermark(stream));
                Check.throwsState("isIdle", () -> x.isIdle(stream) ? 1 : 0);
                Check.throwsState("promise", () -> x.promise(stream, 0));
                Check.throwsState("promise", () -> x.promise(0, stream));
                Check.throwsState("kept", () -> x.kept(stream, 0));
                Check.throwsState("kept", () -> x.kept(0, stream));
            }
            Check.throwsBounds("out", () -> x.out(0, 0));
            Check.throwsBounds("late", () -> x.late(0, 0));
            for (int what = 0; what < 8; what++) {
                Check.due("told " + what, 0, x.told(what));
            }
            Check.due("the tape", how == 2 ? 17 : 0, x.told(8));
            Check.due("told -1", BAD, x.told(-1));
            Check.due("told 9", BAD, x.told(9));
            Check.due("fault", how == 1 ? 4 : 0, x.fault());
        }
    }

    /** "a stream of another kind than wanted, or none such; a part .. that is not as told" */
    private static void wrongStreamsAndParts() {
        WatermarkJoin x = Check.built(ALL_KINDS);
        String before = Check.all(x);
        int[][] wrong = {{2, 0}, {3, 0}, {4, 0}, {5, 0}, {7, 0}, {8, 0}, {-1, 0}, {0, 2}, {0, -1}, {1, 1}, {6, 4}, {6, -1}, {12, 0},
            {0, 4}, {1, 3}};
        for (int[] w : wrong) {
            String what = " of " + w[0] + ", " + w[1];
            Check.due("row" + what, BAD, x.row(w[0], w[1], 5, 5));
            Check.due("mark" + what, BAD, x.mark(w[0], w[1], 5));
            Check.due("end" + what, BAD, x.end(w[0], w[1]));
            Check.due("idle" + what, BAD, x.idle(w[0], w[1], true));
            Check.due("not idle" + what, BAD, x.idle(w[0], w[1], false));
            Check.due("part" + what, BAD, x.part(w[0], w[1]));
            Check.throwsBounds("promise" + what, () -> x.promise(w[0], w[1]));
        }
        for (int stream : new int[] {-1, 0, 1, 2, 3, 5, 6, 7, 8, 12}) {
            Check.due("hold in " + stream, BAD, x.hold(stream, 5));
        }
        Check.due("nothing changed", before, Check.all(x));
    }

    /** All that is asked with numbers far outside, in an object that has all twelve streams. */
    private static void argumentsFarOutside() {
        String twelve = Check.sources(11) + "z=hold a;";
        for (int far : FAR) {
            WatermarkJoin x = Check.built(twelve);
            x.print();
            String before = Check.all(x);
            for (int i = -1; i <= 1; i++) {
                int other = i < 0 ? far : i;
                Check.due("row", BAD, x.row(far, other, 0, 0) & x.row(other, far, 0, 0) & x.row(0, 0, 0, far));
                Check.due("mark", BAD, x.mark(far, other, 0) & x.mark(other, far, 0));
                Check.due("end", BAD, x.end(far, other) & x.end(other, far));
                Check.due("idle", BAD, x.idle(far, other, true) & x.idle(other, far, false));
                Check.due("part", BAD, x.part(far, other) & x.part(other, far));
                Check.due("release", BAD, x.release(far, true, other) & x.release(other, false, far));
                Check.throwsBounds("promise", () -> x.promise(far, other));
                Check.throwsBounds("promise", () -> x.promise(other, far));
                Check.throwsBounds("kept", () -> x.kept(far, other));
                Check.throwsBounds("kept", () -> x.kept(other, far));
                Check.throwsBounds("out", () -> x.out(far, other));
                Check.throwsBounds("out", () -> x.out(other, far));
                Check.throwsBounds("late", () -> x.late(far, other));
                Check.throwsBounds("late", () -> x.late(other, far));
            }
            Check.due("hold", BAD, x.hold(far, 0));
            Check.due("told", BAD, x.told(far));
            Check.throwsBounds("watermark", () -> x.watermark(far));
            Check.throwsBounds("isIdle", () -> x.isIdle(far) ? 1 : 0);
            Check.due("feed", BAD, x.feed(0, far));
            if (far != 12) {
                Check.due("turn", BAD, x.turn(far));
                Check.due("letter", BAD, x.letter(far));
            }
            Check.due("nothing changed", before, Check.all(x));
        }
    }

    /** "answer, in this order, BAD .., GONE .., STOPPED, FULL, PAST" */
    private static void theOrderOfRefusals() {
        WatermarkJoin x = Check.built("align 0 0;a=source 2 marks group 0;h=hold a;");
        x.mark(0, 0, 5);
        Check.due("stopped", STOPPED, x.row(0, 0, 9, 0));
        Check.due("a key ahead of it", BAD, x.row(0, 0, 9, 10));
        Check.due("a time ahead of it", BAD, x.row(0, 0, MOST + 1, 0));
        Check.due("a time ahead of it", BAD, x.mark(0, 0, -MOST - 1));
        Check.due("stopped ahead of late", STOPPED, x.row(0, 0, 1, 0));
        Check.due("stopped ahead of a lesser mark", STOPPED, x.mark(0, 0, 1));
        x.end(0, 0);
        Check.due("gone", GONE, x.row(0, 0, 9, 0));
        Check.due("a key ahead of it", BAD, x.row(0, 0, 9, -1));
        Check.due("a time ahead of it", BAD, x.row(0, 0, -MOST - 1, 0));
        Check.due("a time ahead of it", BAD, x.mark(0, 0, MOST + 1));
        x.mark(0, 1, 3);
        for (int i = 0; i < 60; i++) {
            x.hold(1, 50);
        }
        Check.due("full", FULL, x.hold(1, 50));
        Check.due("full ahead of past", FULL, x.hold(1, 3));
        Check.due("a time ahead of full", BAD, x.hold(1, MOST + 1));
        Check.due("a kind ahead of full", BAD, x.hold(0, 50));
        Check.due("a stream ahead of full", BAD, x.hold(2, 50));
    }

    /** "what answers one of these changes nothing": a row or mark that is STOPPED is not heard, nor noted. */
    private static void whatIsStoppedIsNotHeard() {
        for (int call = 0; call < 2; call++) {
            WatermarkJoin x = Check.built("align 0 0;a=source 1 marks after 3 group 0;b=source 1 marks group 0;");
            x.mark(0, 0, 5);
            x.turn(2);
            String before = Check.all(x);
            Check.due("stopped", STOPPED, call == 0 ? x.row(0, 0, 9, 0) : x.mark(0, 0, 9));
            Check.due("nothing changed", before, Check.all(x));
            x.end(1, 0);
            Check.due("heard in turn 0, not in turn 2", 1, x.turn(1));
        }
    }

    private static void whatIsBadOrGoneIsNotHeard() {
        WatermarkJoin x = Check.built("a=source 2 marks after 3;");
        x.idle(0, 1, true);
        x.turn(2);
        String before = Check.all(x);
        Check.due("bad", BAD, x.row(0, 0, 1, 10) & x.row(0, 1, MOST + 1, 0) & x.mark(0, 0, MOST + 1) & x.mark(0, 1, -MOST - 1));
        Check.due("nothing changed, the idle one is idle", before, Check.all(x));
        Check.due("heard in turn 0", 1, x.turn(1));
        x.end(0, 0);
        String gone = Check.all(x);
        Check.due("gone", GONE, x.row(0, 0, 1, 1));
        Check.due("gone", GONE, x.mark(0, 0, 1));
        Check.due("gone", GONE, x.end(0, 0));
        Check.due("gone", GONE, x.idle(0, 0, true));
        Check.due("gone", GONE, x.idle(0, 0, false));
        Check.due("nothing changed", gone, Check.all(x));
    }

    // ---- promise 2

    /** "The lowest n bytes of w, the highest of these first": one text in pieces of each length, with more above. */
    private static void feedsOfOneToEightBytes() {
        String text = "a=source 1 marks;";
        for (int n = 1; n <= 8; n++) {
            for (long above : new long[] {0, -1, 0x4142434445464748L}) {
                WatermarkJoin x = new WatermarkJoin();
                int fed = 0;
                while (fed < text.length()) {
                    int bytes = Math.min(n, text.length() - fed);
                    long w = above;
                    for (int i = 0; i < bytes; i++) {
                        w = w << 8 | text.charAt(fed + i);
                    }
                    fed += bytes;
                    Check.due("feed of " + bytes, fed, x.feed(w, bytes));
                }
                Check.due("pieces of " + n, 1, x.build());
            }
        }
        WatermarkJoin y = new WatermarkJoin();
        y.feed(0xff61L, 2);
        Check.due("a byte of 255 is a byte", -10, y.build());
        Check.due("its fault", 1, y.fault());
        y.feed(0x8000000000000000L, 8);
        Check.due("the highest byte of eight comes first", -10, y.build());
        y.feed(0x2020202020202080L, 8);
        Check.due("the lowest one last", -17, y.build());
    }

    /** "BAD, changing nothing: n is not 1 .. 8" */
    private static void feedsOfOtherLengths() {
        WatermarkJoin x = new WatermarkJoin();
        Check.feed(x, "a=source 1 marks");
        for (int n : new int[] {0, -1, 9, 10, 16, 64, -8, Integer.MIN_VALUE, Integer.MIN_VALUE + 1, Integer.MAX_VALUE}) {
            Check.due("n = " + n, BAD, x.feed(0x3b3b3b3b3b3b3b3bL, n));
        }
        Check.due("the tape", 16, x.told(8));
        Check.due("n = 1", 17, x.feed(';', 1));
        Check.due("the text", 1, x.build());
    }

    /** "or there would be more than 600" */
    private static void tapeOfSixHundredBytes() {
        for (int n = 1; n <= 8; n++) {
            WatermarkJoin x = new WatermarkJoin();
            for (int i = 0; i < 74; i++) {
                x.feed(0x2020202020202020L, 8);
            }
            // 592 bytes, then as many as leave room for n less 1.
            if (n > 1) {
                for (int i = 592; i < 601 - n; i++) {
                    x.feed(' ', 1);
                }
                Check.due("601 bytes by " + n, BAD, x.feed(0x4141414141414141L, n));
                Check.due("601 - n stay", 601 - n, x.told(8));
                Check.due("600 bytes by " + (n - 1), 600, x.feed(0x2020202020202020L, n - 1));
            } else {
                Check.due("600 bytes by 8", 600, x.feed(0x2020202020202020L, 8));
            }
            for (int more = 1; more <= 8; more++) {
                Check.due("full", BAD, x.feed(0x4141414141414141L, more));
            }
            Check.due("600 stay", 600, x.told(8));
            Check.due("a text of 600 blanks", -610, x.build());
            Check.due("its fault", 2, x.fault());
            Check.due("empty", 0, x.told(8));
            Check.due("there is room again", 8, x.feed(0, 8));
        }
    }

    private static void textOfSixHundredBytes() {
        String text = "a=source 1 marks";
        WatermarkJoin x = new WatermarkJoin();
        Check.due("the last byte ends it", 1, Check.build(x, text + " ".repeat(583) + ";"));
        Check.due("it ends too early", -610, Check.build(x, text + " ".repeat(584)));
        Check.due("no token begins at the last byte", -609, Check.build(x, text + ";" + " ".repeat(582) + "#"));
        Check.due("fault", 1, x.fault());
        Check.due("what was built stands", 1, x.told(0));
    }

    // ---- promises 3 and 4

    private static String busy(WatermarkJoin x) {
        Check.build(x, "align 0 0;a=source 2 lag 0 group 0;b=source 2 marks after 1;h=hold b;j=join a h from -9 to 9;");
        x.hold(2, 9);
        for (int i = 0; i < 7; i++) {
            x.row(1, 0, 5, 1);
        }
        x.row(0, 0, 6, 1);
        x.mark(1, 1, 3);
        x.row(1, 1, 3, 7);
        x.turn(1);
        x.row(1, 1, 8, 3);
        x.end(0, 1);
        return Check.all(x);
    }

    /** "-10 less the place of the first FAULT, and all but the tape stays as it was." */
    private static void faultsLeaveAllAsItWas() {
        WatermarkJoin x = new WatermarkJoin();
        String before = busy(x);
        Check.due("what stands", "4 1 6 1 2 1 1 0 0 | 5 0 0 0:5 2:" + END + " | 3 0 0 1:" + START + " 0:3 | 3 1 0 | 3 1 6 ", before);
        int bytes = x.print();
        for (String text : new String[] {"", "#", "q=source 1 marks;;", "q=source 1 marks;q", "q=hold a;", "align 4 0;"}) {
            Check.due("a fault in " + text, true, Check.build(x, text) <= -10);
        }
        Check.due("all stays", before, Check.all(x));
        Check.due("rows that are out stay", "3 6 1 1", Check.out(x, 5));
        Check.due("rows that are late stay", "1 3 7 1", Check.late(x, 0));
        Check.due("what was written stays", '\n', x.letter(bytes - 1));
        Check.due("the ticket stays", 1, x.release(0, false, 0));
        Check.due("and the turn in which parts were heard", 1, x.turn(1));
    }

    /** "they are as at first: nothing is noted, held, kept, open, LOST; turn 0" */
    private static void buildsAreAsAtFirst() {
        WatermarkJoin x = new WatermarkJoin();
        busy(x);
        int bytes = x.print();
        String text = "align 0 0;a=source 2 lag 0 group 0;b=source 2 marks after 1;h=hold b;j=join a h from -9 to 9;";
        Check.due("streams", 4, Check.build(x, text));
        String first = Check.all(Check.built(text));
        Check.due("as at first", first, Check.all(x));
        Check.due("as at first, in full", "4 0 0 0 0 0 0 0 0 | " + START + " 0 0 0:" + START + " 0:" + START + " | " + START
            + " 0 0 0:" + START + " 0:" + START + " | " + START + " 0 0 | " + START + " 0 0 ", first);
        Check.throwsBounds("no row out", () -> x.out(0, 0));
        Check.throwsBounds("no row late", () -> x.late(0, 0));
        Check.due("no ticket", BAD, x.release(0, false, 0));
        Check.due("what was written stays", '\n', x.letter(bytes - 1));
        Check.due("tickets from 0 on", 0, x.hold(2, 9));
        Check.due("heard in turn 0", 2, x.turn(1));
    }

    private static void groupsOfAnEarlierText() {
        WatermarkJoin x = Check.built("align 0 0;a=source 2 marks group 0;");
        x.mark(0, 0, 1);
        Check.due("aligned", 3, x.part(0, 0));
        Check.build(x, "a=source 2 marks group 0;");
        x.mark(0, 0, 1);
        Check.due("not aligned in this text", 0, x.part(0, 0));
    }

    /** Sixty tickets "since build()" */
    private static void ticketsSinceBuild() {
        WatermarkJoin x = Check.built("a=source 1 marks;h=hold a;");
        for (int i = 0; i < 60; i++) {
            Check.due("ticket", i, x.hold(1, 5));
        }
        Check.due("full", FULL, x.hold(1, 5));
        Check.build(x, "a=source 1 marks;h=hold #;");
        Check.due("full behind a text with a fault", FULL, x.hold(1, 5));
        Check.build(x, "a=source 1 marks;h=hold a;");
        Check.due("from 0 on behind a good one", 0, x.hold(1, 5));
        Check.due("one is held", 1, x.told(5));
    }

    /** "The tape is read as a text, and is empty then, in any case" */
    private static void theTapeIsEmptyThen() {
        WatermarkJoin x = new WatermarkJoin();
        Check.due("nothing is no text", -10, x.build());
        Check.due("a good one", 1, Check.build(x, "a=source 1 marks;"));
        Check.due("empty", 0, x.told(8));
        Check.due("so there is no text", -10, x.build());
        Check.due("fault", 2, x.fault());
        Check.due("but the streams", 1, x.told(0));
        Check.due("one with a fault", -11, Check.build(x, "a"));
        Check.due("empty", 0, x.told(8));
        Check.due("what comes then is a text by itself", 1, Check.build(x, "b=source 1 marks;"));
        Check.due("no streams are built, too", 0, Check.build(x, "align 1 1;"));
        Check.due("streams", 0, x.told(0));
        Check.throwsBounds("no stream 0", () -> x.watermark(0));
        Check.due("turn", 0, x.turn(1000));
        Check.due("the turn", 1000, x.told(1));
        Check.due("an empty page", 0, x.print());
        Check.due("no letter", BAD, x.letter(0));
    }

    /** "The FAULT of the latest build(); 0 when it had none, and before one." */
    private static void faultOfTheLatestBuild() {
        WatermarkJoin x = new WatermarkJoin();
        Check.due("before one", 0, x.fault());
        Check.feed(x, "#");
        Check.due("still before one", 0, x.fault());
        String[] texts = {"", "a", "a=source 1 marks;a", "h=hold a;", "align 4 4;", Check.sources(12) + "m"};
        int[] faults = {1, 2, 3, 4, 5, 6};
        for (int i = 0; i < 6; i++) {
            Check.build(x, texts[i]);
            Check.due("fault of " + texts[i], faults[i], x.fault());
            Check.due("asked again", faults[i], x.fault());
            Check.build(x, "a=source 1 marks;");
            Check.due("none", 0, x.fault());
        }
    }

    // ---- promises 5 and 6

    /** "If the TIME is not above the part's PROMISE, or not above the source's WATERMARK, it is LATE there" */
    private static void rowsAtAPromise() {
        WatermarkJoin x = Check.built("a=source 2 marks;");
        x.mark(0, 0, 10);
        Check.due("the watermark is START", START, x.watermark(0));
        Check.due("far below the promise", 0, x.row(0, 0, -MOST, 1));
        Check.due("below the promise", 0, x.row(0, 0, 9, 2));
        Check.due("at the promise", 0, x.row(0, 0, 10, 3));
        Check.due("above it", 1, x.row(0, 0, 11, 4));
        Check.due("the other part promised nothing", 1, x.row(0, 1, -MOST, 5));
        Check.due("noted", "0 9 2 1", Check.late(x, 1));
        Check.due("noted", "0 10 3 1", Check.late(x, 2));
        Check.due("out", "0 11 4 1, 0 -100000000000000000 5 1", Check.outs(x, 0));
        x.idle(0, 1, true);
        Check.due("the watermark without the idle part", 10, x.watermark(0));
        Check.due("above its promise, below the watermark", 0, x.row(0, 1, -5, 6));
        Check.due("at the watermark", 0, x.row(0, 1, 10, 6));
        Check.due("above it", 1, x.row(0, 1, 11, 6));
        Check.due("late", 5, x.told(3));
        Check.due("its promise", START, x.promise(0, 1));
    }

    /** "the part's PROMISE becomes TIME less LAG less 1, if that is above it" */
    private static void promisesOfRows() {
        for (long lag : new long[] {0, 1, 2, 999_999_999_999_999_999L}) {
            WatermarkJoin x = Check.built("a=source 2 lag " + lag + ";");
            x.row(0, 0, 10, 0);
            Check.due("lag " + lag, 10 - lag - 1, x.promise(0, 0));
            Check.due("the other part", START, x.promise(0, 1));
            Check.due("a lesser one", lag > 0 ? 1 : 0, x.row(0, 0, 9 + (lag > 0 ? 1 : 0), 0));
            Check.due("it stays", 10 - lag - 1, x.promise(0, 0));
            x.row(0, 0, 11, 0);
            Check.due("a greater one", 11 - lag - 1, x.promise(0, 0));
            x.row(0, 1, -MOST, 0);
            Check.due("the least time", -MOST - lag - 1, x.promise(0, 1));
            x.row(0, 1, MOST, 0);
            Check.due("the greatest time", MOST - lag - 1, x.promise(0, 1));
        }
        WatermarkJoin y = Check.built("a=source 1 lag 5;b=source 1 marks;");
        y.row(0, 0, 20, 0);
        y.mark(0, 0, 17);
        Check.due("above the mark", 1, y.row(0, 0, 22, 0));
        Check.due("16 is not above 17", 17, y.promise(0, 0));
        y.row(0, 0, 17, 0);
        Check.due("a row that is late promises nothing", 17, y.promise(0, 0));
        y.row(1, 0, 20, 0);
        Check.due("nor does one of a source with marks", START, y.promise(1, 0));
    }

    /** "The part is ACTIVE and HEARD in this turn", also when the row is LATE: 0. */
    private static void lateRowsAreHeard() {
        WatermarkJoin x = Check.built("a=source 1 marks after 2;");
        x.mark(0, 0, 5);
        x.turn(1);
        Check.due("late", 0, x.row(0, 0, 5, 0));
        Check.due("heard in turn 1", 0, x.turn(1));
        Check.due("two turns before", 1, x.turn(1));
        Check.due("idle", 1, x.part(0, 0));
        Check.due("the source is idle", true, x.isIdle(0));
        Check.due("late again", 0, x.row(0, 0, 5, 0));
        Check.due("active", 0, x.part(0, 0));
        Check.due("the source is not idle", false, x.isIdle(0));
    }

    /** "if the TIME is above its PROMISE, it is its PROMISE: 1, else 0" */
    private static void marksAtAPromise() {
        for (String source : new String[] {"a=source 1 marks after 2;", "a=source 1 lag 3 after 2;"}) {
            WatermarkJoin x = Check.built(source);
            Check.due("above START", 1, x.mark(0, 0, -MOST));
            Check.due("the same", 0, x.mark(0, 0, -MOST));
            Check.due("above", 1, x.mark(0, 0, -MOST + 1));
            Check.due("below", 0, x.mark(0, 0, -MOST));
            Check.due("it stays", -MOST + 1, x.promise(0, 0));
            Check.due("the watermark", -MOST + 1, x.watermark(0));
            Check.due("the greatest", 1, x.mark(0, 0, MOST));
            Check.due("not above", 0, x.mark(0, 0, MOST));
            x.turn(1);
            Check.due("0, but heard", 0, x.mark(0, 0, 1));
            Check.due("heard in turn 1", 0, x.turn(1));
            Check.due("not in turn 2", 1, x.turn(1));
            Check.due("idle", true, x.isIdle(0));
            Check.due("0, but active", 0, x.mark(0, 0, 1));
            Check.due("not idle", false, x.isIdle(0));
        }
    }

    /** Rows and marks come to parts that are IDLE, though they would be STOPPED if they were ACTIVE. */
    private static void idlePartsAreNotStopped() {
        for (int call = 0; call < 2; call++) {
            WatermarkJoin x = Check.built("align 0 0;a=source 2 marks group 0;");
            x.mark(0, 0, 5);
            x.idle(0, 0, true);
            Check.due("it comes", 1, call == 0 ? x.row(0, 0, 6, 0) : x.mark(0, 0, 6));
            Check.due("stopped then", 3, x.part(0, 0));
            Check.due("the next one", STOPPED, call == 0 ? x.row(0, 0, 7, 0) : x.mark(0, 0, 7));
        }
    }

    // ---- promises 7 to 9

    /** "A part of a source is ENDED, and its PROMISE is END: 1. BAD, GONE." */
    private static void ends() {
        WatermarkJoin x = Check.built("align 1 0;a=source 3 marks after 1 group 1;");
        x.mark(0, 0, 5);
        x.idle(0, 1, true);
        Check.due("a part that is stopped", 1, x.end(0, 0));
        Check.due("one that is idle", 1, x.end(0, 1));
        Check.due("one that is active", 1, x.end(0, 2));
        for (int part = 0; part < 3; part++) {
            Check.due("ended", 2, x.part(0, part));
            Check.due("END", END, x.promise(0, part));
            Check.due("gone", GONE, x.end(0, part));
        }
        Check.due("none falls idle", 0, x.turn(1000));
        Check.due("END", END, x.watermark(0));
        Check.due("no part is idle", 0, x.told(6));
    }

    /** "0 when it was IDLE, or ACTIVE, already (then nothing of it changes)" */
    private static void idleAlready() {
        WatermarkJoin x = Check.built("align 0 0;a=source 2 marks after 2 group 0;");
        x.mark(0, 0, 3);
        x.turn(1);
        String before = Check.all(x);
        Check.due("active", 0, x.idle(0, 1, false));
        Check.due("active, and stopped", 0, x.idle(0, 0, false));
        Check.due("nothing changed", before, Check.all(x));
        Check.due("heard in turn 0: the one that is not stopped", 1, x.turn(1));
        String idle = Check.all(x);
        Check.due("idle already", 0, x.idle(0, 1, true));
        Check.due("nothing changed", idle, Check.all(x));
        Check.due("back", 1, x.idle(0, 1, false));
        Check.due("heard in turn 2, the other is stopped", 0, x.turn(1));
        Check.due("two turns before", 1, x.turn(1));
        Check.due("a part that is not stopped any more", 0, x.part(0, 0));
        Check.due("falls", 1, x.turn(1));
        Check.due("promises stay", 3, x.promise(0, 0));
        Check.due("the watermark without a goal", true, x.isIdle(0));
    }

    /** "So many turns go by, 1 .. 1000" */
    private static void turnsByOneToAThousand() {
        WatermarkJoin x = Check.built("a=source 1 marks;");
        for (int n : new int[] {0, -1, 1001, 1002, -1000, Integer.MIN_VALUE, Integer.MAX_VALUE}) {
            Check.due("turn(" + n + ")", BAD, x.turn(n));
        }
        Check.due("no turn went by", 0, x.told(1));
        Check.due("1", 0, x.turn(1));
        Check.due("1000", 0, x.turn(1000));
        Check.due("999", 0, x.turn(999));
        Check.due("the turn", 2000, x.told(1));
        for (int i = 0; i < 400; i++) {
            x.turn(1000);
        }
        Check.due("many turns", 402_000, x.told(1));
    }

    /** "were HEARD AFTER turns before or earlier" */
    private static void partsThatWereHeardBefore() {
        for (int after : new int[] {1, 2, 3, 999, 1000}) {
            WatermarkJoin x = Check.built("a=source 3 marks after " + after + ";b=source 1 marks;u=union a b;");
            x.idle(0, 1, true);
            x.end(0, 2);
            x.mark(1, 0, 7);
            if (after > 1) {
                Check.due("one turn too few", 0, x.turn(after - 1));
            }
            Check.due("active", 0, x.part(0, 0));
            Check.due("after " + after, 1, x.turn(1));
            Check.due("idle", 1, x.part(0, 0));
            Check.due("the ended one", 2, x.part(0, 2));
            Check.due("RECKONING is done: the source is idle", true, x.isIdle(0));
            Check.due("and the union goes on", 7, x.watermark(2));
            Check.due("once", 0, x.turn(1000));
            x.mark(0, 0, 1);
            Check.due("many turns at once", 1, x.turn(1000));
            Check.due("without AFTER never", 0, x.part(1, 0));
        }
    }

    private static void allPartsOfASource() {
        for (int parts = 1; parts <= 4; parts++) {
            WatermarkJoin x = Check.built("a=source " + parts + " marks after 1;b=source " + parts + " lag 0 after 2;");
            Check.due("those of the first source", parts, x.turn(1));
            Check.due("those of the second one", parts, x.turn(1));
            Check.due("all are idle", 2 * parts, x.told(6));
            Check.due("and the last one of them", 1, x.part(1, parts - 1));
        }
    }

    /** "those that are STOPPED as things are ahead of this" */
    private static void stoppedAheadOfTheTurn() {
        WatermarkJoin x = Check.built("align 0 10;b=source 2 marks after 5 group 0;a=source 2 marks after 5 group 0;");
        x.mark(0, 0, 30);
        x.mark(0, 1, 5);
        x.mark(1, 0, 16);
        x.mark(1, 1, 15);
        Check.due("30 and 16 are stopped for 5", 2, x.told(7));
        Check.due("5 and 15 fall, though a thousand turns go by: they do so at once", 2, x.turn(1000));
        Check.due("one that was stopped ahead of it", 3, x.part(0, 0));
        Check.due("one more, free now", 0, x.part(1, 0));
        Check.due("which falls next", 1, x.turn(1));
        Check.due("then the last one is free", 0, x.part(0, 0));
        Check.due("and falls", 1, x.turn(1));
        Check.due("all idle", 4, x.told(6));
    }

    // ---- promises 10 and 11

    /** "PAST: it is not above the hold's WATERMARK", which takes no ticket. */
    private static void holdsAtTheWatermark() {
        WatermarkJoin x = Check.built("a=source 1 marks;h=hold a;");
        Check.due("above START", 0, x.hold(1, -MOST));
        x.release(0, false, 0);
        x.mark(0, 0, 5);
        String before = Check.all(x);
        Check.due("at the watermark", PAST, x.hold(1, 5));
        Check.due("below it", PAST, x.hold(1, 4));
        Check.due("far below it", PAST, x.hold(1, -MOST));
        Check.due("nothing changed", before, Check.all(x));
        Check.due("above it: the next ticket", 1, x.hold(1, 6));
        x.end(0, 0);
        Check.due("the hold waits", 5, x.watermark(1));
        x.release(1, false, 0);
        Check.due("above END is nothing", PAST, x.hold(1, MOST));
    }

    /** "FULL: there were 60": tickets, in all holds, whether they are held still or not. */
    private static void sixtyTickets() {
        for (int released = 0; released < 2; released++) {
            WatermarkJoin x = Check.built("a=source 1 marks;h=hold a;b=source 1 marks;i=hold b;");
            for (int i = 0; i < 60; i++) {
                Check.due("ticket " + i, i, x.hold(1 + 2 * (i % 2), 10 + i));
                if (released == 1) {
                    x.release(i, false, 0);
                }
            }
            int held = released == 1 ? 0 : 30;
            Check.due("held in one", held, x.kept(1, 0));
            Check.due("held in the other", held, x.kept(3, 0));
            Check.due("full", FULL, x.hold(1, 99));
            Check.due("full", FULL, x.hold(3, 99));
            Check.due("held", 2 * held, x.told(5));
            Check.due("no ticket 60", BAD, x.release(60, false, 0));
            Check.due("the last ticket", released == 1 ? BAD : 1, x.release(59, false, 0));
            Check.due("full still", FULL, x.hold(1, 99));
            x.mark(0, 0, 5);
            Check.due("full ahead of past", FULL, x.hold(1, 5));
        }
    }

    /** "BAD: there was no such ticket, it is held no more, or the KEY (whether emits is true or not)." */
    private static void releases() {
        WatermarkJoin x = Check.built("a=source 1 marks;h=hold a;");
        x.hold(1, 5);
        x.hold(1, 7);
        String before = Check.all(x);
        for (int ticket : new int[] {-1, 2, 3, 59, 60, Integer.MIN_VALUE, Integer.MAX_VALUE}) {
            Check.due("ticket " + ticket, BAD, x.release(ticket, true, 0));
            Check.due("ticket " + ticket, BAD, x.release(ticket, false, 0));
        }
        for (int key : new int[] {-1, 10}) {
            Check.due("key " + key, BAD, x.release(0, true, key));
            Check.due("key " + key, BAD, x.release(0, false, key));
        }
        Check.due("nothing changed", before, Check.all(x));
        x.mark(0, 0, 20);
        Check.due("watermark", 4, x.watermark(1));
        Check.due("released", 1, x.release(0, false, 9));
        Check.due("no row", 0, x.told(2));
        Check.due("watermark", 6, x.watermark(1));
        Check.due("held no more", BAD, x.release(0, true, 0));
        Check.due("nor that way", BAD, x.release(0, false, 0));
        Check.due("released", 1, x.release(1, true, 9));
        Check.due("a row", "1 7 9 1", Check.outs(x, 0));
        Check.due("watermark", 20, x.watermark(1));
        Check.due("held no more", BAD, x.release(1, true, 0));
    }

    /** "If emits is true, a row is PASSED ON from the hold ahead of that": ahead of the watermark that goes on. */
    private static void releasesAheadOfTheWatermark() {
        WatermarkJoin x = Check.built("a=source 1 marks;h=hold a;w=window h size 5 step 5;");
        x.hold(1, 4);
        x.end(0, 0);
        Check.due("the window waits", 3, x.watermark(2));
        x.release(0, true, 2);
        Check.due("not late", 0, x.told(3));
        Check.due("in its span", "2 4 2 1", Check.outs(x, 0));
        Check.due("which is over", END, x.watermark(2));
    }

    // ---- promises 12 to 16

    /** "the first one is asked first"; "there is no such stream" */
    private static void streamsThatThereAre() {
        for (int streams = 0; streams <= 12; streams++) {
            int count = streams;
            WatermarkJoin x = Check.built(Check.sources(streams) + "align 0 0;");
            for (int stream = 0; stream < streams; stream++) {
                Check.due("watermark", START, x.watermark(stream));
                Check.due("isIdle", false, x.isIdle(stream));
                Check.due("kept", 0, x.kept(stream, 0));
                Check.due("promise", START, x.promise(stream, 0));
                Check.due("part", 0, x.part(stream, 0));
            }
            LongSupplier[] beyond = {() -> x.watermark(count), () -> x.isIdle(count) ? 1 : 0, () -> x.kept(count, 0),
                () -> x.kept(count, 1), () -> x.promise(count, 0), () -> x.watermark(-1), () -> x.isIdle(-1) ? 1 : 0,
                () -> x.kept(-1, 0), () -> x.promise(-1, 0)};
            for (LongSupplier call : beyond) {
                Check.throwsBounds("of " + streams + " streams", call);
            }
            Check.due("part of one beyond", BAD, x.part(streams, 0));
            Check.due("row of one beyond", BAD, x.row(streams, 0, 0, 0));
        }
    }

    /** "it is no source, or has no such part" */
    private static void partsThatThereAre() {
        for (int parts = 1; parts <= 4; parts++) {
            int count = parts;
            WatermarkJoin x = Check.built("a=source " + parts + " marks;h=hold a;");
            for (int part = 0; part < parts; part++) {
                Check.due("a row", 1, x.row(0, part, 1, 1));
                Check.due("a mark", 1, x.mark(0, part, part));
                Check.due("its promise", part, x.promise(0, part));
                Check.due("it is active", 0, x.part(0, part));
            }
            Check.throwsBounds("promise beyond", () -> x.promise(0, count));
            Check.throwsBounds("promise below", () -> x.promise(0, -1));
            Check.throwsBounds("promise of no source", () -> x.promise(1, 0));
            Check.due("part beyond", BAD, x.part(0, parts));
            Check.due("part below", BAD, x.part(0, -1));
            Check.due("part of no source", BAD, x.part(1, 0));
            Check.due("row beyond", BAD, x.row(0, parts, 9, 1));
            Check.due("mark beyond", BAD, x.mark(0, parts, 9));
            Check.due("end beyond", BAD, x.end(0, parts));
            Check.due("idle beyond", BAD, x.idle(0, parts, true));
        }
    }

    /** "the latter also when side is not 0 or 1"; "0 for all others" */
    private static void sidesOfStreams() {
        WatermarkJoin x = Check.built(ALL_KINDS);
        x.row(0, 0, 4, 1);
        x.row(1, 0, 3, 2);
        x.row(6, 0, 9, 1);
        x.row(6, 0, 9, 1);
        x.hold(4, 50);
        x.hold(4, 50);
        x.hold(4, 51);
        int[][] due = {{0, 0}, {0, 0}, {0, 0}, {0, 0}, {3, 0}, {2, 0}, {0, 0}, {0, 2}};
        for (int stream = 0; stream < 8; stream++) {
            int s = stream;
            Check.due("side 0 of " + s, due[s][0], x.kept(s, 0));
            Check.due("side 1 of " + s, due[s][1], x.kept(s, 1));
            for (int side : new int[] {-1, 2, Integer.MIN_VALUE, Integer.MAX_VALUE}) {
                Check.throwsBounds("side " + side + " of " + s, () -> x.kept(s, side));
            }
        }
        x.end(0, 0);
        x.end(0, 1);
        x.end(1, 0);
        x.release(0, false, 0);
        x.release(1, false, 0);
        Check.due("one is held", 1, x.kept(4, 0));
        Check.due("the window is over", 0, x.kept(5, 0));
        Check.due("its rows are kept", 2, x.kept(7, 0));
    }

    /** "0 ACTIVE, and not STOPPED, 1 IDLE, 2 ENDED, 3 STOPPED" */
    private static void statesOfParts() {
        WatermarkJoin x = Check.built("align 0 4;a=source 4 marks group 0;");
        x.mark(0, 0, 5);
        x.mark(0, 1, 0);
        x.idle(0, 2, true);
        x.end(0, 3);
        Check.due("stopped, active, idle, ended", "3 0 1 2", x.part(0, 0) + " " + x.part(0, 1) + " " + x.part(0, 2) + " " + x.part(0, 3));
        Check.due("idle ones", 1, x.told(6));
        Check.due("stopped ones", 1, x.told(7));
        x.mark(0, 1, 1);
        Check.due("5 is not above 1 and 4", 0, x.part(0, 0));
        Check.due("none is stopped", 0, x.told(7));
    }

    // ---- promises 17 to 21

    /** "there is none such, it is beyond the first 300, or another what" */
    private static void threeHundredRowsOut() {
        WatermarkJoin x = Check.built("a=source 1 marks;");
        Check.throwsBounds("none yet", () -> x.out(0, 0));
        for (int i = 0; i < 300; i++) {
            x.row(0, 0, i, i % 10);
        }
        Check.due("the first", "0 0 0 1", Check.out(x, 0));
        Check.due("the 300th", "0 299 9 1", Check.out(x, 299));
        Check.throwsBounds("none such", () -> x.out(300, 0));
        x.row(0, 0, 300, 0);
        x.row(0, 0, 301, 0);
        Check.throwsBounds("beyond the first 300", () -> x.out(300, 0));
        Check.throwsBounds("beyond the first 300", () -> x.out(301, 3));
        Check.due("all are counted", 302, x.told(2));
        Check.due("the 300th stays", "0 299 9 1", Check.out(x, 299));
        for (int i : new int[] {-1, 302, Integer.MIN_VALUE, Integer.MAX_VALUE}) {
            Check.throwsBounds("row " + i, () -> x.out(i, 0));
        }
        for (int what : new int[] {-1, 4, 5, Integer.MIN_VALUE, Integer.MAX_VALUE}) {
            Check.throwsBounds("what " + what, () -> x.out(0, what));
            Check.throwsBounds("what " + what, () -> x.out(299, what));
        }
        Check.throwsBounds("none is late", () -> x.late(0, 0));
    }

    /** "there is none such, it is beyond the first 200, or another what" */
    private static void twoHundredRowsLate() {
        WatermarkJoin x = Check.built("a=source 1 marks;");
        x.mark(0, 0, 1000);
        Check.throwsBounds("none yet", () -> x.late(0, 0));
        for (int i = 0; i < 200; i++) {
            x.row(0, 0, i, i % 10);
        }
        Check.due("the first", "0 0 0 1", Check.late(x, 0));
        Check.due("the 200th", "0 199 9 1", Check.late(x, 199));
        Check.throwsBounds("none such", () -> x.late(200, 0));
        x.row(0, 0, 300, 0);
        x.row(0, 0, 301, 0);
        Check.throwsBounds("beyond the first 200", () -> x.late(200, 0));
        Check.throwsBounds("beyond the first 200", () -> x.late(201, 3));
        Check.due("all are counted", 202, x.told(3));
        Check.due("the 200th stays", "0 199 9 1", Check.late(x, 199));
        for (int i : new int[] {-1, 202, Integer.MIN_VALUE, Integer.MAX_VALUE}) {
            Check.throwsBounds("row " + i, () -> x.late(i, 0));
        }
        for (int what : new int[] {-1, 4, 5, Integer.MIN_VALUE, Integer.MAX_VALUE}) {
            Check.throwsBounds("what " + what, () -> x.late(0, what));
            Check.throwsBounds("what " + what, () -> x.late(199, what));
        }
        Check.throwsBounds("none is out", () -> x.out(0, 0));
    }

    /** "BAD: another what." */
    private static void whatIsTold() {
        WatermarkJoin x = new WatermarkJoin();
        busy(x);
        Check.feed(x, "abc");
        int[] due = {4, 1, 6, 1, 2, 1, 1, 0, 3};
        for (int what = 0; what <= 8; what++) {
            Check.due("told " + what, due[what], x.told(what));
        }
        for (int what : new int[] {-1, 9, 10, 256, Integer.MIN_VALUE, Integer.MAX_VALUE}) {
            Check.due("told " + what, BAD, x.told(what));
        }
    }

    /** "its WATERMARK (start, end, or the number, - in front of those below 0)" */
    private static void watermarksThatAreWritten() {
        long[] times = {-MOST, -MOST + 1, -1000, -999, -101, -100, -99, -11, -10, -9, -2, -1, 0, 1, 8, 9, 10, 11, 19, 81, 90, 99, 100,
            101, 729, 999, 1000, 6561, 59049, 99_999_999_999_999_999L, MOST};
        for (long time : times) {
            WatermarkJoin x = Check.built("a=source 1 marks;");
            x.mark(0, 0, time);
            Check.due("the number", "0 a source " + time + "\n", Check.page(x));
        }
        WatermarkJoin x = Check.built("a=source 1 marks;");
        Check.due("start", "0 a source start\n", Check.page(x));
        x.mark(0, 0, MOST);
        x.idle(0, 0, true);
        Check.due("a number, and idle", "0 a source 100000000000000000 idle\n", Check.page(x));
        x.end(0, 0);
        Check.due("end", "0 a source end\n", Check.page(x));
        WatermarkJoin y = Check.built("a=source 1 marks;");
        y.idle(0, 0, true);
        Check.due("start, and idle", "0 a source start idle\n", Check.page(y));
    }

    /** The greatest and the least watermark that there are, with many digits and all of them of one kind. */
    private static void longNumbersThatAreWritten() {
        StringBuilder s = new StringBuilder("a=source 1 lag 999999999999999999;");
        for (char c = 'b'; c < 'j'; c++) {
            s.append(c).append("=delay ").append((char) (c - 1)).append(" 999999999999999999;");
        }
        WatermarkJoin x = Check.built(s.toString());
        x.row(0, 0, -MOST, 0);
        Check.due("the least", "0 a source -1100000000000000000\n1 b delay 0 -100000000000000001\n", firstLines(x, "2 c"));
        WatermarkJoin y = Check.built(s.toString());
        y.mark(0, 0, MOST);
        String page = Check.page(y);
        Check.due("held", "8 i delay 7 8000000000000000000\n", page.substring(page.indexOf("8 i")));
        Check.due("1099999999999999999", "1 b delay 0 1099999999999999999\n", page.substring(page.indexOf("1 b"), page.indexOf("2 c")));
    }

    private static String firstLines(WatermarkJoin x, String upTo) {
        String page = Check.page(x);
        return page.substring(0, page.indexOf(upTo));
    }

    /** "its inputs' numbers": none of a source, up to four of a union, in the order in which the text has them. */
    private static void inputsThatAreWritten() {
        WatermarkJoin x = Check.built(Check.sources(11) + "abcdefgh=union k a j b;");
        String page = Check.page(x);
        Check.due("numbers of two digits", "10 k source start\n11 abcdefgh union 10 0 9 1 start\n", page.substring(page.indexOf("10 k")));
        WatermarkJoin y = Check.built(ALL_KINDS);
        Check.due("all kinds", "0 a source start\n1 b source start\n2 c union 0 1 start\n3 d delay 2 start\n4 e hold 3 start\n"
            + "5 f window 4 start\n6 g source start\n7 h join 5 6 start\n", Check.page(y));
    }

    /** "Byte i of what was written latest. BAD: none such." */
    private static void lettersOfTheLatestPage() {
        WatermarkJoin x = Check.built("a=source 1 marks;b=source 1 marks;");
        Check.due("nothing was written", BAD, x.letter(0));
        Check.due("bytes", 34, x.print());
        Check.due("the first", '0', x.letter(0));
        Check.due("the last", '\n', x.letter(33));
        Check.due("one beyond", BAD, x.letter(34));
        for (int i : new int[] {-1, 35, 799, 800, 801, Integer.MIN_VALUE, Integer.MAX_VALUE}) {
            Check.due("letter " + i, BAD, x.letter(i));
        }
        x.end(0, 0);
        Check.due("written ahead of the end", 's', x.letter(11));
        Check.due("shorter now", 32, x.print());
        Check.due("e of end", 'e', x.letter(11));
        Check.due("the last", '\n', x.letter(31));
        Check.due("what was there is no more", BAD, x.letter(32));
        Check.due("nor this", BAD, x.letter(33));
        Check.build(x, "align 0 0;");
        Check.due("it stays through a build", 'e', x.letter(11));
        Check.due("no stream, no line", 0, x.print());
        Check.due("no byte", BAD, x.letter(0));
    }

    /** "An object is used for at most 512 calls": the 512th one is as good as the first. */
    private static void fiveHundredAndTwelveCalls() {
        WatermarkJoin x = Check.built("a=source 1 marks;w=window a size 999 step 999;");
        // Six feeds and a build so far.
        for (int i = 0; i < 503; i++) {
            x.row(0, 0, i, 7);
        }
        x.end(0, 0);
        Check.due("the 512th call", 503, x.out(0, 3));
    }

    public static void main(String[] args) {
        nothingBuilt();
        wrongStreamsAndParts();
        argumentsFarOutside();
        theOrderOfRefusals();
        whatIsStoppedIsNotHeard();
        whatIsBadOrGoneIsNotHeard();
        feedsOfOneToEightBytes();
        feedsOfOtherLengths();
        tapeOfSixHundredBytes();
        textOfSixHundredBytes();
        faultsLeaveAllAsItWas();
        buildsAreAsAtFirst();
        groupsOfAnEarlierText();
        ticketsSinceBuild();
        theTapeIsEmptyThen();
        faultOfTheLatestBuild();
        rowsAtAPromise();
        promisesOfRows();
        lateRowsAreHeard();
        marksAtAPromise();
        idlePartsAreNotStopped();
        ends();
        idleAlready();
        turnsByOneToAThousand();
        partsThatWereHeardBefore();
        allPartsOfASource();
        stoppedAheadOfTheTurn();
        holdsAtTheWatermark();
        sixtyTickets();
        releases();
        releasesAheadOfTheWatermark();
        streamsThatThereAre();
        partsThatThereAre();
        sidesOfStreams();
        statesOfParts();
        threeHundredRowsOut();
        twoHundredRowsLate();
        whatIsTold();
        watermarksThatAreWritten();
        longNumbersThatAreWritten();
        inputsThatAreWritten();
        lettersOfTheLatestPage();
        fiveHundredAndTwelveCalls();
        Check.finish();
    }
}
