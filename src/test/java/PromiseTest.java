/** Each promise of the document by itself, with answers that were worked out by hand. */
public final class PromiseTest {
    private static final long START = WatermarkJoin.START;
    private static final long END = WatermarkJoin.END;
    private static final long MOST = 100_000_000_000_000_000L;
    private static final int BAD = WatermarkJoin.BAD;
    private static final int GONE = WatermarkJoin.GONE;
    private static final int STOPPED = WatermarkJoin.STOPPED;
    private static final int FULL = WatermarkJoin.FULL;
    private static final int PAST = WatermarkJoin.PAST;

    private static void newObject() {
        WatermarkJoin x = new WatermarkJoin();
        for (int what = 0; what <= 8; what++) {
            Check.due("1: told(" + what + ")", 0, x.told(what));
        }
        Check.due("1: fault", 0, x.fault());
        Check.due("1: row", BAD, x.row(0, 0, 0, 0));
        Check.due("1: mark", BAD, x.mark(0, 0, 0));
        Check.due("1: end", BAD, x.end(0, 0));
        Check.due("1: idle", BAD, x.idle(0, 0, true));
        Check.due("1: turn", BAD, x.turn(1));
        Check.due("1: hold", BAD, x.hold(0, 0));
        Check.due("1: release", BAD, x.release(0, false, 0));
        Check.due("1: part", BAD, x.part(0, 0));
        Check.due("1: print", BAD, x.print());
        Check.due("1: letter", BAD, x.letter(0));
        Check.throwsState("1: watermark", () -> x.watermark(0));
        Check.throwsState("1: isIdle", () -> x.isIdle(-1) ? 1 : 0);
        Check.throwsState("1: promise", () -> x.promise(0, 0));
        Check.throwsState("1: kept", () -> x.kept(0, 2));
        Check.throwsBounds("1: out", () -> x.out(0, 0));
        Check.throwsBounds("1: late", () -> x.late(0, 0));
    }

    private static void feed() {
        WatermarkJoin x = new WatermarkJoin();
        Check.due("2: n = 0", BAD, x.feed(65, 0));
        Check.due("2: n = 9", BAD, x.feed(65, 9));
        Check.due("2: n = -1", BAD, x.feed(65, -1));
        Check.due("2: n at its least", BAD, x.feed(65, Integer.MIN_VALUE));
        Check.due("2: the tape", 0, x.told(8));
        // "a=source" as eight bytes, then " 1 marks;" with bytes above it that do not count.
        Check.due("2: eight", 8, x.feed(0x613d736f75726365L, 8));
        Check.due("2: one", 9, x.feed(0xffffff20L, 1));
        Check.due("2: seven", 16, x.feed(0xff31206d61726b73L, 7));
        Check.due("2: one below 0", 17, x.feed(-256L | 0x3b, 1));
        Check.due("2: what was fed is a text", 1, x.build());
        Check.due("2: the tape is empty then", 0, x.told(8));
        for (int i = 1; i <= 74; i++) {
            Check.due("2: feed " + i, 8 * i, x.feed(0, 8));
        }
        Check.due("2: 599", 599, x.feed(0, 7));
        Check.due("2: 601", BAD, x.feed(0, 2));
        Check.due("2: 600", 600, x.feed(0, 1));
        Check.due("2: full", BAD, x.feed(0, 1));
        Check.due("2: still 600", 600, x.told(8));
    }

    private static void build() {
        WatermarkJoin x = Check.built("a=source 2 lag 0 after 1;h=hold a;w=window h size 5 step 5;j=source 1 marks;");
        x.row(0, 0, 3, 1);
        x.row(0, 1, 3, 1);
        x.row(0, 1, 1, 1);
        x.hold(1, 7);
        x.turn(2);
        x.row(3, 0, 1, 1);
        Check.due("3: as it was", "4 2 1 1 0 1 2", seven(x));
        Check.due("3: a text with a fault", -17, Check.build(x, "b=hold b;"));
        Check.due("3: all stays", "4 2 1 1 0 1 2", seven(x));
        Check.due("3: kept stays", 1, x.kept(2, 0));
        Check.due("3: a good text", 2, Check.build(x, "b=source 1 marks;h=hold b;"));
        Check.due("3: as at first", "2 0 0 0 0 0 0", seven(x));
        Check.due("3: watermark", START, x.watermark(0));
        Check.due("3: kept", 0, x.kept(1, 0));
        Check.throwsBounds("3: out", () -> x.out(0, 0));
        Check.throwsBounds("3: late", () -> x.late(0, 0));
        Check.due("3: tickets from 0 on", 0, x.hold(1, 7));
        Check.due("3: the same text again", 2, Check.build(x, "b=source 1 marks;h=hold b;"));
        Check.due("3: no ticket", BAD, x.release(0, false, 0));
        Check.due("3: no streams", 0, Check.build(x, "align 0 1;"));
        Check.throwsBounds("3: but built", () -> x.watermark(0));
        Check.due("3: turn", 0, x.turn(1));
        Check.due("3: print", 0, x.print());
    }

    private static String seven(WatermarkJoin x) {
        StringBuilder s = new StringBuilder();
        for (int what = 0; what <= 6; what++) {
            s.append(what > 0 ? " " : "").append(x.told(what));
        }
        return s.toString();
    }

    private static void row() {
        WatermarkJoin x = Check.built("a=source 2 lag 3;h=hold a;b=source 1 marks;");
        Check.due("5: no stream", BAD, x.row(-1, 0, 0, 0));
        Check.due("5: no stream", BAD, x.row(3, 0, 0, 0));
        Check.due("5: no source", BAD, x.row(1, 0, 0, 0));
        Check.due("5: no part", BAD, x.row(0, -1, 0, 0));
        Check.due("5: no part", BAD, x.row(0, 2, 0, 0));
        Check.due("5: no part of the other", BAD, x.row(2, 1, 0, 0));
        Check.due("5: time", BAD, x.row(0, 0, MOST + 1, 0));
        Check.due("5: time", BAD, x.row(0, 0, -MOST - 1, 0));
        Check.due("5: time", BAD, x.row(0, 0, Long.MIN_VALUE, 0));
        Check.due("5: key", BAD, x.row(0, 0, 0, -1));
        Check.due("5: key", BAD, x.row(0, 0, 0, 10));
        Check.due("5: least time", 1, x.row(0, 0, -MOST, 0));
        Check.due("5: promise", -MOST - 4, x.promise(0, 0));
        Check.due("5: row", 1, x.row(0, 0, 10, 9));
        Check.due("5: time less lag less 1", 6, x.promise(0, 0));
        Check.due("5: out behind the hold", "1 10 9 1", Check.out(x, 1));
        Check.due("5: not below", 1, x.row(0, 0, 8, 0));
        Check.due("5: a promise never sinks", 6, x.promise(0, 0));
        Check.due("5: not above the promise", 0, x.row(0, 0, 6, 4));
        Check.due("5: late there", "0 6 4 1", Check.late(x, 0));
        Check.due("5: just above", 1, x.row(0, 0, 7, 4));
        Check.due("5: marks do not rise with rows", 1, x.row(2, 0, 5, 5));
        Check.due("5: marks do not rise with rows", START, x.promise(2, 0));
        Check.due("5: a source that is not taken", "2 5 5 1", Check.out(x, 4));
        x.mark(0, 0, 20);
        x.mark(0, 1, 3);
        x.idle(0, 1, true);
        Check.due("5: watermark without the idle part", 20, x.watermark(0));
        Check.due("5: above its promise, not above the watermark", 0, x.row(0, 1, 20, 1));
        Check.due("5: it is active", 0, x.part(0, 1));
        Check.due("5: its promise stays", 3, x.promise(0, 1));
        Check.due("5: just above the watermark", 1, x.row(0, 1, 21, 1));
        x.end(0, 1);
        Check.due("5: gone", GONE, x.row(0, 1, 30, 1));
        Check.due("5: bad ahead of gone", BAD, x.row(0, 1, 30, 10));
        Check.due("5: most time", 1, x.row(0, 0, MOST, 0));
    }

    private static void mark() {
        WatermarkJoin x = Check.built("a=source 1 lag 3 group 1;b=source 1 marks group 1;align 1 5;u=union a b;");
        Check.due("6: no source", BAD, x.mark(2, 0, 0));
        Check.due("6: no part", BAD, x.mark(0, 1, 0));
        Check.due("6: time", BAD, x.mark(0, 0, MOST + 1));
        Check.due("6: mark", 1, x.mark(0, 0, 10));
        Check.due("6: promise", 10, x.promise(0, 0));
        Check.due("6: watermark", 10, x.watermark(0));
        Check.due("6: stopped while the other promises nothing", STOPPED, x.mark(0, 0, 11));
        Check.due("6: bad ahead of stopped", BAD, x.mark(0, 0, MOST + 1));
        Check.due("6: mark", 1, x.mark(1, 0, 4));
        Check.due("6: 10 is above 4 + 5", STOPPED, x.mark(0, 0, 11));
        Check.due("6: mark", 1, x.mark(1, 0, 5));
        Check.due("6: 10 is not above 5 + 5", 0, x.mark(0, 0, 10));
        Check.due("6: a lesser one", 0, x.mark(1, 0, 4));
        Check.due("6: it stays", 5, x.promise(1, 0));
        x.idle(1, 0, true);
        Check.due("6: idle", 1, x.part(1, 0));
        Check.due("6: it comes back even with 0", 0, x.mark(1, 0, 5));
        Check.due("6: active", 0, x.part(1, 0));
        x.end(1, 0);
        Check.due("6: gone", GONE, x.mark(1, 0, 50));
        Check.due("6: least time", 1, Check.built("a=source 1 marks;").mark(0, 0, -MOST));
    }

    private static void end() {
        WatermarkJoin x = Check.built("a=source 2 marks group 0;h=hold a;align 0 0;");
        Check.due("7: no source", BAD, x.end(1, 0));
        Check.due("7: no part", BAD, x.end(0, 2));
        Check.due("7: no stream", BAD, x.end(5, 0));
        x.mark(0, 0, 7);
        Check.due("7: stopped", 3, x.part(0, 0));
        Check.due("7: a stopped one ends", 1, x.end(0, 0));
        Check.due("7: ended", 2, x.part(0, 0));
        Check.due("7: promise", END, x.promise(0, 0));
        Check.due("7: watermark of the other", START, x.watermark(0));
        Check.due("7: gone", GONE, x.end(0, 0));
        x.idle(0, 1, true);
        Check.due("7: one is ended, one idle: no goal", 1, x.isIdle(0) ? 1 : 0);
        Check.due("7: an idle one ends", 1, x.end(0, 1));
        Check.due("7: all ended", END, x.watermark(0));
        Check.due("7: not idle", 0, x.isIdle(0) ? 1 : 0);
        Check.due("7: END goes on", END, x.watermark(1));
    }

    private static void idle() {
        WatermarkJoin x = Check.built("a=source 2 marks after 2;h=hold a;");
        Check.due("8: no source", BAD, x.idle(1, 0, true));
        Check.due("8: no part", BAD, x.idle(0, -1, false));
        x.mark(0, 0, 5);
        x.mark(0, 1, 9);
        Check.due("8: watermark", 5, x.watermark(0));
        Check.due("8: active already", 0, x.idle(0, 0, false));
        Check.due("8: idle", 1, x.idle(0, 0, true));
        Check.due("8: idle already", 0, x.idle(0, 0, true));
        Check.due("8: part", 1, x.part(0, 0));
        Check.due("8: told", 1, x.told(6));
        Check.due("8: watermark", 9, x.watermark(0));
        Check.due("8: both", 1, x.idle(0, 1, true));
        Check.due("8: the source is idle", 1, x.isIdle(0) ? 1 : 0);
        Check.due("8: and the hold", 1, x.isIdle(1) ? 1 : 0);
        x.turn(1);
        Check.due("8: back", 1, x.idle(0, 0, false));
        Check.due("8: not idle", 0, x.isIdle(0) ? 1 : 0);
        Check.due("8: a watermark never sinks", 9, x.watermark(0));
        Check.due("8: heard in turn 1", 0, x.turn(1));
        Check.due("8: active already, so not heard", 0, x.idle(0, 0, false));
        Check.due("8: in turn 3", 1, x.turn(1));
        x.end(0, 0);
        Check.due("8: gone", GONE, x.idle(0, 0, true));
        Check.due("8: gone", GONE, x.idle(0, 0, false));
    }

    private static void turn() {
        WatermarkJoin x = Check.built("a=source 1 marks after 1 group 0;b=source 1 marks after 1 group 0;"
            + "c=source 1 marks;d=source 2 marks after 3;align 0 0;");
        Check.due("9: 0", BAD, x.turn(0));
        Check.due("9: -1", BAD, x.turn(-1));
        Check.due("9: 1001", BAD, x.turn(1001));
        Check.due("9: turn", 0, x.told(1));
        x.mark(1, 0, 3);
        x.idle(0, 0, true);
        x.mark(0, 0, 5);
        Check.due("9: a is stopped for b", 3, x.part(0, 0));
        Check.due("9: b alone falls idle", 1, x.turn(1));
        Check.due("9: a was stopped ahead of this", 0, x.part(0, 0));
        Check.due("9: b", 1, x.part(1, 0));
        Check.due("9: now a", 1, x.turn(1));
        Check.due("9: a", 1, x.part(0, 0));
        x.mark(3, 1, 1);
        Check.due("9: d's first part, heard 3 turns before", 1, x.turn(1));
        Check.due("9: not yet its second", 0, x.turn(1));
        Check.due("9: then it", 1, x.turn(1));
        Check.due("9: without after never", 0, x.turn(1000));
        Check.due("9: c", 0, x.part(2, 0));
        Check.due("9: turn", 1005, x.told(1));
        WatermarkJoin four = Check.built("a=source 4 marks after 2 group 3;align 3 0;");
        four.mark(0, 3, 1);
        four.mark(0, 2, 1);
        Check.due("19: stopped parts of four", 2, four.told(7));
        Check.due("9: the others of four", 2, four.turn(2));
        Check.due("9: idle ones of four", 2, four.told(6));
        Check.due("9: they stop no more", 0, four.told(7));
        Check.due("9: many at once", 2, Check.built("a=source 2 marks after 1000;").turn(1000));
        Check.due("9: one too few", 0, Check.built("a=source 2 marks after 1000;").turn(999));
    }

    private static void hold() {
        WatermarkJoin x = Check.built("a=source 1 marks;h=hold a;b=source 1 marks;g=hold b;");
        Check.due("10: no hold", BAD, x.hold(0, 5));
        Check.due("10: no stream", BAD, x.hold(4, 5));
        Check.due("10: time", BAD, x.hold(1, MOST + 1));
        x.mark(0, 0, 4);
        Check.due("10: not above the watermark", PAST, x.hold(1, 4));
        Check.due("10: above", 0, x.hold(1, 10));
        Check.due("10: the same time", 1, x.hold(1, 10));
        Check.due("10: a lesser one", 2, x.hold(1, 7));
        Check.due("10: another hold", 3, x.hold(3, -MOST));
        Check.due("10: held", 3, x.kept(1, 0));
        Check.due("10: held in the other", 1, x.kept(3, 0));
        Check.due("10: told", 4, x.told(5));
        x.mark(0, 0, 20);
        Check.due("10: the least less 1", 6, x.watermark(1));
        Check.due("10: the input", 20, x.watermark(0));
        Check.due("10: past", PAST, x.hold(1, 6));
        x.release(2, false, 0);
        Check.due("10: the next one less 1", 9, x.watermark(1));
        x.idle(0, 0, true);
        Check.due("10: not idle while times are held", 0, x.isIdle(1) ? 1 : 0);
        x.release(0, false, 0);
        x.release(1, false, 0);
        Check.due("10: idle without", 1, x.isIdle(1) ? 1 : 0);
        Check.due("10: it stays", 9, x.watermark(1));
        Check.due("10: an idle input", 4, x.hold(1, 50));
        Check.due("10: not idle, its own watermark", 9, x.watermark(1));
        Check.due("10: not idle", 0, x.isIdle(1) ? 1 : 0);
        for (int i = 5; i < 60; i++) {
            Check.due("10: ticket", i, x.hold(3, 100));
            x.release(i, false, 0);
        }
        Check.due("10: there were 60", FULL, x.hold(3, 100));
        Check.due("10: held of the 60", 2, x.told(5));
        Check.due("11: no ticket beyond them", BAD, x.release(60, false, 0));
        Check.due("10: full ahead of past", FULL, x.hold(1, 0));
        Check.due("10: bad ahead of full", BAD, x.hold(0, 0));
    }

    private static void release() {
        WatermarkJoin x = Check.built("a=source 1 marks;h=hold a;d=delay h 5;b=source 1 marks;i=hold b;");
        x.hold(1, 10);
        x.hold(4, 20);
        Check.due("11: none such", BAD, x.release(-1, true, 0));
        Check.due("11: none such", BAD, x.release(2, true, 0));
        Check.due("11: key", BAD, x.release(0, true, 10));
        Check.due("11: key though it emits nothing", BAD, x.release(0, false, -1));
        x.mark(0, 0, 30);
        Check.due("11: delayed", 14, x.watermark(2));
        Check.due("11: a row ahead of the watermark", 1, x.release(0, true, 3));
        Check.due("11: out of the delay, not late", "2 15 3 1", Check.out(x, 0));
        Check.due("11: watermark", 30, x.watermark(1));
        Check.due("11: watermark", 35, x.watermark(2));
        Check.due("11: held no more", BAD, x.release(0, true, 3));
        Check.due("11: no row", 1, x.release(1, false, 3));
        Check.due("11: no row", 1, x.told(2));
        Check.due("11: held", 0, x.told(5));
    }

    private static void looks() {
        WatermarkJoin x = Check.built("a=source 2 marks group 2;h=hold a;align 2 0;");
        Check.throwsBounds("12: -1", () -> x.watermark(-1));
        Check.throwsBounds("12: 2", () -> x.watermark(2));
        Check.throwsBounds("13: -1", () -> x.isIdle(-1) ? 1 : 0);
        Check.throwsBounds("13: 2", () -> x.isIdle(2) ? 1 : 0);
        Check.throwsBounds("14: no source", () -> x.promise(1, 0));
        Check.throwsBounds("14: no stream", () -> x.promise(2, 0));
        Check.throwsBounds("14: no part", () -> x.promise(0, 2));
        Check.throwsBounds("14: no part", () -> x.promise(0, -1));
        Check.throwsBounds("16: side", () -> x.kept(1, 2));
        Check.throwsBounds("16: side", () -> x.kept(0, -1));
        Check.throwsBounds("16: stream", () -> x.kept(2, 0));
        Check.due("12: at first", START, x.watermark(1));
        Check.due("13: at first", 0, x.isIdle(1) ? 1 : 0);
        Check.due("14: at first", START, x.promise(0, 1));
        Check.due("15: at first", 0, x.part(0, 1));
        Check.due("15: no source", BAD, x.part(1, 0));
        Check.due("15: no part", BAD, x.part(0, 2));
        Check.due("15: no stream", BAD, x.part(-1, 0));
        Check.due("16: of a source", 0, x.kept(0, 0));
        Check.due("16: of a source", 0, x.kept(0, 1));
        x.hold(1, 5);
        Check.due("16: side 1 of a hold", 0, x.kept(1, 1));
        x.mark(0, 0, 1);
        Check.due("15: stopped", 3, x.part(0, 0));
        Check.due("19: stopped", 1, x.told(7));
        Check.due("19: idle", 0, x.told(6));
        Check.due("19: -1", BAD, x.told(-1));
        Check.due("19: 9", BAD, x.told(9));
        x.feed(0, 3);
        Check.due("19: tape", 3, x.told(8));
    }

    private static void notes() {
        WatermarkJoin x = Check.built("a=source 1 marks;h=hold a;d=delay h 4;b=source 2 marks;");
        x.row(0, 0, 1, 5);
        x.row(3, 1, 2, 6);
        x.mark(3, 0, 3);
        x.row(3, 0, 3, 7);
        Check.due("17: the first one, with its stream and its time there", "2 5 5 1", Check.out(x, 0));
        Check.due("17: the second one", "3 2 6 1", Check.out(x, 1));
        Check.throwsBounds("17: no third one", () -> x.out(2, 0));
        Check.due("18: the first one", "3 3 7 1", Check.late(x, 0));
        Check.throwsBounds("18: no second one", () -> x.late(1, 0));
        Check.due("19: out", 2, x.told(2));
        Check.due("19: late", 1, x.told(3));
    }

    private static void print() {
        WatermarkJoin x = Check.built("first=source 2 marks;b=source 1 lag 0;c=union b first;d=delay c 5;"
            + "abcdefgh=hold d;w=window abcdefgh size 5 step 5;k=source 1 marks;l=source 1 marks;j=join l k from 0 to 1;");
        Check.due("20: at first", "0 first source start\n1 b source start\n2 c union 1 0 start\n3 d delay 2 start\n"
            + "4 abcdefgh hold 3 start\n5 w window 4 start\n6 k source start\n7 l source start\n8 j join 7 6 start\n",
            Check.page(x));
        x.mark(0, 0, -12);
        x.idle(0, 1, true);
        x.row(1, 0, 1, 0);
        x.end(6, 0);
        x.idle(7, 0, true);
        String page = "0 first source -12\n1 b source 0\n2 c union 1 0 -12\n3 d delay 2 -7\n"
            + "4 abcdefgh hold 3 -7\n5 w window 4 -7\n6 k source end\n7 l source start idle\n8 j join 7 6 start idle\n";
        Check.due("20: later", page, Check.page(x));
        Check.due("20: bytes", page.length(), x.print());
        Check.due("21: first", '0', x.letter(0));
        Check.due("21: last", '\n', x.letter(page.length() - 1));
        Check.due("21: none such", BAD, x.letter(page.length()));
        Check.due("21: none such", BAD, x.letter(-1));
        x.end(7, 0);
        Check.due("21: what was written latest", 'i', x.letter(page.length() - 5));
        Check.due("21: none such yet", BAD, x.letter(page.length()));
        Check.build(x, "a=b;");
        Check.due("21: stays", 'i', x.letter(page.length() - 5));
        longestPage();
    }

    /** Read by two objects, half by each: its letters are more than the calls that one object is used for. */
    private static void longestPage() {
        StringBuilder text = new StringBuilder();
        StringBuilder want = new StringBuilder();
        for (int i = 0; i < 12; i++) {
            String name = "name" + (char) ('a' + i) + "xyz";
            text.append(name).append("=source 1 lag 999999999999999999;");
            want.append(i).append(" ").append(name).append(" source -1100000000000000000 idle\n");
        }
        StringBuilder got = new StringBuilder();
        for (int half = 0; half < 2; half++) {
            WatermarkJoin x = Check.built(text.toString());
            for (int i = 0; i < 12; i++) {
                x.row(i, 0, -MOST, 0);
                x.idle(i, 0, true);
            }
            Check.due("20: bytes of long lines", 530, x.print());
            for (int i = 265 * half; i < 265 * (half + 1); i++) {
                got.append((char) x.letter(i));
            }
        }
        Check.due("20: long lines", want.toString(), got.toString());
    }

    public static void main(String[] args) {
        newObject();
        feed();
        build();
        row();
        mark();
        end();
        idle();
        turn();
        hold();
        release();
        looks();
        notes();
        print();
        Check.finish();
    }
}
