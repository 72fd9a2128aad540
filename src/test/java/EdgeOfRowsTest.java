/** The edges of 2 ROWS and 3 WATERMARKS: a test for each sentence that names one, in the document's order. */
public final class EdgeOfRowsTest {
    private static final long START = WatermarkJoin.START;
    private static final long END = WatermarkJoin.END;
    private static final long MOST = 100_000_000_000_000_000L;
    private static final long HELD = 8_000_000_000_000_000_000L;
    private static final int BAD = WatermarkJoin.BAD;
    private static final int STOPPED = WatermarkJoin.STOPPED;

    /** "a KEY (0 .. 9)" */
    private static void keysFromZeroToNine() {
        WatermarkJoin x = Check.built("a=source 1 marks;h=hold a;");
        for (int key = 0; key <= 9; key++) {
            Check.due("key " + key, 1, x.row(0, 0, key, key));
            Check.due("key " + key + " out", "1 " + key + " " + key + " 1", Check.out(x, key));
            int ticket = x.hold(1, 50);
            Check.due("key " + key + " of a release", 1, x.release(ticket, false, key));
        }
        int held = x.hold(1, 50);
        for (int key : new int[] {-1, 10, 11, Integer.MIN_VALUE, Integer.MAX_VALUE}) {
            Check.due("key " + key, BAD, x.row(0, 0, 40, key));
            Check.due("key " + key + " of a release", BAD, x.release(held, true, key));
        }
        Check.due("rows out", 10, x.told(2));
        Check.due("still held", 1, x.told(5));
    }

    /** "TIMES of calls are -10^17 .. 10^17." */
    private static void timesOfCalls() {
        for (long time : new long[] {-MOST, -MOST + 1, -1, 0, MOST - 1, MOST}) {
            WatermarkJoin x = Check.built("a=source 1 marks;h=hold a;");
            Check.due("hold at " + time, 0, x.hold(1, time));
            Check.due("row at " + time, 1, x.row(0, 0, time, 0));
            Check.due("mark at " + time, 1, x.mark(0, 0, time));
            Check.due("promise", time, x.promise(0, 0));
            Check.due("the hold's watermark", time - 1, x.watermark(1));
        }
        for (long time : new long[] {-MOST - 1, MOST + 1, START, END, -HELD, HELD, Long.MIN_VALUE, Long.MAX_VALUE}) {
            WatermarkJoin x = Check.built("a=source 1 marks;h=hold a;");
            String before = Check.all(x);
            Check.due("hold at " + time, BAD, x.hold(1, time));
            Check.due("row at " + time, BAD, x.row(0, 0, time, 0));
            Check.due("mark at " + time, BAD, x.mark(0, 0, time));
            Check.due("nothing changed", before, Check.all(x));
        }
    }

    /** Streams 1 to 8 delay so that the time 10^17 is 8 * 10^18 and this number together at the last one. */
    private static String chainTo(long above) {
        StringBuilder s = new StringBuilder("a=source 1 marks;");
        for (char c = 'b'; c < 'i'; c++) {
            s.append(c).append("=delay ").append((char) (c - 1)).append(" 999999999999999999;");
        }
        return s + "i=delay h " + (900_000_000_000_000_007L + above) + ";";
    }

    /** "A sum of times and numbers that would be above 8 * 10^18 is that (HELD)" */
    private static void sumsAreHeld() {
        for (long above : new long[] {-2, -1, 0, 1, 2, 99_999_999_999_999_992L}) {
            WatermarkJoin x = Check.built(chainTo(above));
            long due = Math.min(HELD, HELD + above);
            x.row(0, 0, MOST, 4);
            Check.due("a time of 8 * 10^18 and " + above, "8 " + due + " 4 1", Check.out(x, 0));
            x.mark(0, 0, MOST);
            Check.due("a watermark of 8 * 10^18 and " + above, due, x.watermark(8));
            Check.due("that of the stream before", 7_099_999_999_999_999_993L, x.watermark(7));
        }
    }

    /** No sum of 64 bits ever wraps around, and what is HELD is "not above" a watermark that is HELD, too. */
    private static void heldRowsAreLate() {
        WatermarkJoin x = Check.built(chainTo(1));
        x.mark(0, 0, MOST - 2);
        Check.due("a watermark that is not held", HELD - 1, x.watermark(8));
        x.row(0, 0, MOST - 1, 1);
        Check.due("a time above it", "8 " + HELD + " 1 1", Check.out(x, 0));
        x.mark(0, 0, MOST - 1);
        Check.due("a watermark of 8 * 10^18", HELD, x.watermark(8));
        Check.due("a row above the source's watermark", 1, x.row(0, 0, MOST, 2));
        Check.due("is late where it is held", "8 " + HELD + " 2 1", Check.late(x, 0));
        Check.due("and not out", 1, x.told(2));
    }

    /** "START and END stay START and END whatever is added." */
    private static void startAndEndStay() {
        WatermarkJoin x = Check.built("a=source 1 marks;d=delay a 999999999999999999;e=delay d 1;");
        x.turn(1);
        Check.due("START and a delay", START, x.watermark(1));
        Check.due("START and two delays", START, x.watermark(2));
        x.end(0, 0);
        Check.due("END and a delay", END, x.watermark(1));
        Check.due("END and two delays", END, x.watermark(2));
        WatermarkJoin y = Check.built("align 0 999999999999999999;a=source 2 marks group 0;");
        y.mark(0, 0, -MOST);
        Check.due("above START and any SPAN", 3, y.part(0, 0));
        Check.due("the part at START", 0, y.part(0, 1));
    }

    /** "its PROMISE is above the least PROMISE of all ACTIVE parts of that group's sources and SPAN together" */
    private static void stoppedAboveTheSpan() {
        long[][] cases = {{0, 5, 5, 0}, {0, 6, 5, 3}, {0, -5, -5, 0}, {0, -4, -5, 3}, {1, 6, 5, 0}, {1, 7, 5, 3}, {10, 15, 5, 0},
            {10, 16, 5, 3}, {10, 4, -5, 0}, {10, 5, -5, 0}, {10, 6, -5, 3}, {1, -4, -5, 0}, {1, -3, -5, 3},
            {200_000_000_000_000_000L, MOST, -MOST, 0}, {199_999_999_999_999_999L, MOST, -MOST, 3},
            {999_999_999_999_999_999L, MOST, -MOST, 0}};
        for (long[] c : cases) {
            String what = "span " + c[0] + ", promise " + c[1] + ", least " + c[2];
            WatermarkJoin x = Check.built("align 3 " + c[0] + ";a=source 1 marks group 3;b=source 1 lag 0 group 3;");
            x.mark(1, 0, c[2]);
            x.mark(0, 0, c[1]);
            Check.due(what, c[3], x.part(0, 0));
            Check.due(what + ": the least itself", 0, x.part(1, 0));
            Check.due(what + ": told", c[3] / 3, x.told(7));
            Check.due(what + ": mark", c[3] == 3 ? STOPPED : 0, x.mark(0, 0, c[1]));
            Check.due(what + ": row", c[3] == 3 ? STOPPED : 0, x.row(0, 0, c[1], 0));
        }
    }

    /** "a part that is ACTIVE, of a source with a group that is aligned" */
    private static void onlyActivePartsOfAlignedGroupsStop() {
        WatermarkJoin x = Check.built("a=source 2 marks;b=source 2 marks group 1;align 0 0;align 2 0;");
        x.mark(0, 0, 1000);
        x.mark(1, 0, 1000);
        Check.due("no group, and one that is not aligned", 0, x.told(7));
        WatermarkJoin z = Check.built("align 0 0;align 1 0;align 2 0;align 3 0;a=source 2 marks;b=source 1 marks group 1;");
        z.mark(0, 0, 1000);
        z.mark(1, 0, 1000);
        Check.due("no group is none of the four, and counts for none", 0, z.told(7));
        WatermarkJoin y = Check.built("a=source 2 marks group 0;b=source 1 marks group 1;align 0 0;align 1 0;");
        y.mark(0, 0, 5);
        y.mark(1, 0, 9);
        Check.due("stopped for a part of the same source", 3, y.part(0, 0));
        Check.due("groups do not count for one another", 0, y.part(1, 0));
        y.idle(0, 0, true);
        Check.due("an idle part is not stopped", 1, y.part(0, 0));
        Check.due("none is", 0, y.told(7));
        y.idle(0, 0, false);
        Check.due("active again, stopped again", 3, y.part(0, 0));
        y.idle(0, 1, true);
        Check.due("idle parts do not count", 0, y.part(0, 0));
        y.idle(0, 1, false);
        Check.due("but when they are back", 3, y.part(0, 0));
        y.end(0, 1);
        Check.due("ended parts do not count", 0, y.part(0, 0));
        y.end(0, 0);
        Check.due("an ended part is not stopped", 2, y.part(0, 0));
        Check.due("none at last", 0, y.told(7));
    }

    /** "if that is not TAKEN, the row is OUT": from each kind of stream, and from no other one. */
    private static void outWhereNothingTakes() {
        String[] texts = {"a=source 1 marks;", "a=source 1 marks;h=hold a;", "a=source 1 marks;d=delay a 5;",
            "a=source 1 marks;b=source 1 marks;u=union b a;", "a=source 1 marks;b=source 1 marks;j=join a b from 0 to 0;",
            "a=source 1 marks;w=window a size 3 step 3;"};
        String[] due = {"0 7 1 1", "1 7 1 1", "1 12 1 1", "2 7 1 1", "2 7 1 1", "1 8 1 1"};
        for (int i = 0; i < texts.length; i++) {
            WatermarkJoin x = Check.built(texts[i]);
            x.row(0, 0, 7, 1);
            if (texts[i].contains("join")) {
                x.row(1, 0, 7, 1);
            }
            x.end(0, 0);
            Check.due("out of " + texts[i], due[i], Check.outs(x, 0));
        }
    }

    /** "if its TIME is not above that stream's WATERMARK, it is LATE there" */
    private static void lateWhenNotAbove() {
        for (String taker : new String[] {"s=union a b;", "s=join a b from -50 to 50;"}) {
            for (long time = 7; time <= 11; time++) {
                WatermarkJoin x = Check.built(Check.sources(2) + taker + "h=hold s;");
                x.row(1, 0, 10, 3);
                x.mark(1, 0, 9);
                x.idle(0, 0, true);
                Check.due("watermark of " + taker, 9, x.watermark(2));
                int outs = x.told(2);
                Check.due("row at " + time, 1, x.row(0, 0, time, 3));
                boolean isLate = time <= 9;
                Check.due(taker + " late at " + time, isLate ? 1 : 0, x.told(3));
                Check.due(taker + " out at " + time, isLate ? 0 : 1, x.told(2) - outs);
                Check.due(taker + " kept", isLate || taker.contains("union") ? 0 : 1, x.kept(2, 0));
                if (isLate) {
                    Check.due("noted", "2 " + time + " 3 1", Check.late(x, 0));
                }
            }
        }
    }

    /** A row that is LATE has its WEIGHT noted, and the TIME that it has there. */
    private static void lateWithItsWeight() {
        WatermarkJoin x = Check.built("a=source 1 marks;w=window a size 5 step 5;d=delay w 10;b=source 1 marks;u=union d b;");
        for (int i = 0; i < 3; i++) {
            x.row(0, 0, 2, 6);
        }
        x.idle(0, 0, true);
        x.mark(3, 0, 14);
        Check.due("the union goes on without the idle one", 14, x.watermark(4));
        x.mark(0, 0, 4);
        Check.due("late at the union", "4 14 6 3", Check.late(x, 0));
        Check.due("not out", 0, x.told(2));
    }

    /** "SPANS begin at all whole multiples of STEP (0 and below, too) and are SIZE long" */
    private static void spansOfATime() {
        int[][] windows = {{1, 1}, {2, 1}, {3, 1}, {4, 1}, {2, 2}, {3, 2}, {5, 2}, {7, 2}, {8, 2}, {3, 3}, {4, 3}, {11, 3}, {12, 3},
            {5, 5}, {20, 5}};
        for (int[] window : windows) {
            for (int time = -9; time <= 9; time++) {
                String text = "a=source 1 marks;w=window a size " + window[0] + " step " + window[1] + ";";
                StringBuilder due = new StringBuilder();
                int spans = 0;
                for (int beginning = -60; beginning <= 60; beginning++) {
                    if (beginning % window[1] == 0 && beginning <= time && time < beginning + window[0]) {
                        due.append(spans > 0 ? ", " : "").append("1 ").append(beginning + window[0] - 1).append(" 5 1");
                        spans++;
                    }
                }
                WatermarkJoin x = Check.built(text);
                x.row(0, 0, time, 5);
                Check.due(text + " open for " + time, spans, x.kept(1, 0));
                x.end(0, 0);
                Check.due(text + " out for " + time, due.toString(), Check.outs(x, 0));
            }
        }
    }

    private static void spansFarBelowZero() {
        WatermarkJoin x = Check.built("a=source 1 marks;w=window a size 1000000 step 250000;");
        x.row(0, 0, -MOST, 0);
        x.row(0, 0, -MOST + 250_000, 0);
        Check.due("-10^17 is a multiple of 250000", 5, x.kept(1, 0));
        x.end(0, 0);
        Check.due("out", "1 -99999999999750001 0 1, 1 -99999999999500001 0 2, 1 -99999999999250001 0 2, 1 -99999999999000001 0 2, "
            + "1 -99999999998750001 0 1", Check.outs(x, 0));
    }

    /** "the LAST time of each is its beginning and SIZE less 1 (HELD)", "not above what that would be without HELD" */
    private static void lastTimesAreHeld() {
        WatermarkJoin x = Check.built(chainTo(-1) + "w=window i size 4 step 2;");
        x.row(0, 0, MOST, 1);
        Check.due("8 * 10^18 - 1 is in those that begin 4 and 2 below", 2, x.kept(9, 0));
        x.mark(0, 0, MOST);
        Check.due("the first is over", "9 " + (HELD - 1) + " 1 1", Check.outs(x, 0));
        Check.due("the other one's last time is 8 * 10^18", 1, x.kept(9, 0));
        x.end(0, 0);
        Check.due("and is over at END", "9 " + HELD + " 1 1", Check.outs(x, 1));

        WatermarkJoin y = Check.built(chainTo(0) + "w=window i size 4 step 2;");
        y.row(0, 0, MOST, 2);
        y.row(0, 0, MOST, 1);
        y.row(0, 0, MOST - 1, 1);
        Check.due("8 * 10^18 is in those that begin 2 below and there", 5, y.kept(9, 0));
        y.mark(0, 0, MOST - 1);
        Check.due("4 below is over", "9 " + (HELD - 1) + " 1 1", Check.outs(y, 0));
        y.mark(0, 0, MOST);
        Check.due("all that are held are over, by beginnings, then keys", "9 " + HELD + " 1 2, 9 " + HELD + " 2 1, 9 " + HELD
            + " 1 1, 9 " + HELD + " 2 1", Check.outs(y, 1));
        Check.due("none is open", 0, y.kept(9, 0));
    }

    /** "When 24 are open in this window, and this would be a new one, the WEIGHT is LOST." */
    private static void twentyFourOpenSums() {
        WatermarkJoin x = Check.built("a=source 1 marks;w=window a size 1 step 1;b=source 1 marks;v=window b size 1 step 1;");
        for (int i = 0; i < 24; i++) {
            x.row(0, 0, i / 10, i % 10);
            Check.due("open", i + 1, x.kept(1, 0));
        }
        Check.due("none is lost", 0, x.told(4));
        x.row(0, 0, 2, 4);
        Check.due("a new key of an open span is lost", 1, x.told(4));
        x.row(0, 0, 9, 0);
        Check.due("a new span is lost", 2, x.told(4));
        Check.due("24 are open", 24, x.kept(1, 0));
        x.row(0, 0, 2, 3);
        Check.due("an open one goes on", 2, x.told(4));
        x.row(2, 0, 9, 0);
        Check.due("the other window has its own", 2, x.told(4));
        Check.due("one is open there", 1, x.kept(3, 0));
        x.mark(0, 0, 0);
        Check.due("ten are over", 14, x.kept(1, 0));
        x.row(0, 0, 9, 0);
        Check.due("there is room again", 15, x.kept(1, 0));
        Check.due("none more is lost", 2, x.told(4));
        x.end(0, 0);
        Check.due("what was lost is not in a sum", "1 2 2 1, 1 2 3 2, 1 9 0 1", Check.outs(x, 22));
    }

    /** Each WEIGHT by itself: with 23 open, of a row's four spans the first one opens, and three are lost. */
    private static void lostByEachSpan() {
        WatermarkJoin x = Check.built("a=source 1 marks;w=window a size 4 step 1;");
        for (int key = 0; key < 5; key++) {
            x.row(0, 0, 0, key);
        }
        x.row(0, 0, 1, 0);
        x.row(0, 0, 2, 0);
        x.row(0, 0, 3, 0);
        Check.due("23 are open", 23, x.kept(1, 0));
        x.row(0, 0, 3, 9);
        Check.due("24 are open", 24, x.kept(1, 0));
        Check.due("three are lost", 3, x.told(4));
        x.row(0, 0, 3, 9);
        Check.due("three more", 6, x.told(4));
        x.end(0, 0);
        Check.due("the first span is open with key 9", "1 3 0 4, 1 3 1 1, 1 3 2 1, 1 3 3 1, 1 3 4 1, 1 3 9 2, 1 4 0 3, 1 5 0 2, "
            + "1 6 0 1", Check.outs(x, 15));
    }

    /** "t and FROM together is not above u, and u not above t and TO together", whichever of the two comes first. */
    private static void rowsThatMeet() {
        int[][] spans = {{0, 0}, {-2, 3}, {2, 3}, {-3, -2}, {-1, -1}, {1, 1}, {0, 1}, {-1, 0}};
        for (int[] span : spans) {
            String text = Check.sources(2) + "j=join a b from " + signed(span[0]) + " to " + signed(span[1]) + ";";
            for (int u = -5; u <= 5; u++) {
                boolean meet = span[0] <= u && u <= span[1];
                for (int order = 0; order < 2; order++) {
                    WatermarkJoin x = Check.built(text);
                    x.row(order, 0, order == 0 ? 0 : u, 4);
                    x.row(1 - order, 0, order == 0 ? u : 0, 4);
                    Check.due(text + " 0 and " + u, meet ? "2 " + Math.max(0, u) + " 4 1" : "", Check.outs(x, 0));
                }
            }
        }
    }

    private static String signed(long number) {
        return number < 0 ? "- " + -number : "" + number;
    }

    private static void rowsThatMeetFarOff() {
        long[][] spans = {{-999_999_999_999_999_999L, 999_999_999_999_999_999L, 1}, {2 * MOST, 2 * MOST, 1},
            {2 * MOST + 1, 3 * MOST, 0}, {0, 2 * MOST - 1, 0}, {0, 2 * MOST, 1}};
        for (long[] span : spans) {
            WatermarkJoin x = Check.built(Check.sources(2) + "j=join a b from " + signed(span[0]) + " to " + signed(span[1]) + ";");
            x.row(0, 0, -MOST, 0);
            x.row(1, 0, MOST, 0);
            Check.due("from " + span[0] + " to " + span[1], span[2], x.told(2));
        }
        WatermarkJoin y = Check.built(Check.sources(2) + "j=join a b from - 999999999999999999 to 999999999999999999;");
        y.row(1, 0, -MOST, 0);
        y.row(0, 0, MOST, 0);
        Check.due("the second one far below", "2 " + MOST + " 0 1", Check.outs(y, 0));
    }

    /** "if their KEYS are the same" */
    private static void rowsOfOtherKeys() {
        WatermarkJoin x = Check.built(Check.sources(2) + "j=join a b from -9 to 9;");
        for (int key = 0; key < 6; key++) {
            x.row(0, 0, key, key);
        }
        x.row(1, 0, 9, 4);
        x.row(1, 0, 8, 7);
        Check.due("one met", "2 9 4 1", Check.outs(x, 0));
        Check.due("both are kept", 2, x.kept(2, 1));
    }

    /** "if 6 of its input were kept, the one of these that came first goes, and is LOST" */
    private static void sixKeptRows() {
        for (int side = 0; side < 2; side++) {
            WatermarkJoin x = Check.built(Check.sources(2) + "j=join a b from -90 to 90;");
            for (int i = 0; i < 6; i++) {
                x.row(side, 0, 20 - i, 0);
                Check.due("kept", i + 1, x.kept(2, side));
            }
            Check.due("six are kept, none is lost", 0, x.told(4));
            x.row(side, 0, 30, 9);
            Check.due("six are kept", 6, x.kept(2, side));
            Check.due("one is lost", 1, x.told(4));
            Check.due("none of the other side", 0, x.kept(2, 1 - side));
            x.row(1 - side, 0, 1, 0);
            Check.due("the one that came first went, the others in their order", "2 19 0 1, 2 18 0 1, 2 17 0 1, 2 16 0 1, 2 15 0 1",
                Check.outs(x, 0));
            for (int i = 0; i < 5; i++) {
                x.row(1 - side, 0, 1, 5);
            }
            Check.due("six of each side", 6, x.kept(2, 1 - side));
            Check.due("none more is lost", 1, x.told(4));
            x.row(1 - side, 0, 1, 5);
            Check.due("two are lost", 2, x.told(4));
            Check.due("still six", 6, x.kept(2, side));
        }
    }

    /** "FAR is a row of the first input, if t and TO together is not above the WATERMARK of the second input .." */
    private static void farRows() {
        int[][] spans = {{0, 0}, {-2, 3}, {2, 3}, {-3, -2}};
        for (int[] span : spans) {
            String text = Check.sources(2) + "j=join a b from " + signed(span[0]) + " to " + signed(span[1]) + ";";
            for (int mark = -6; mark <= 6; mark++) {
                int[] stays = {span[1] <= mark ? 0 : 1, -span[0] <= mark ? 0 : 1};
                for (int side = 0; side < 2; side++) {
                    WatermarkJoin x = Check.built(text);
                    x.row(side, 0, 0, 1);
                    Check.due(text + " kept at first", 1, x.kept(2, side));
                    x.mark(1 - side, 0, mark);
                    Check.due(text + " kept of side " + side + " behind " + mark, stays[side], x.kept(2, side));
                    Check.due("what is far is not lost", 0, x.told(4));
                    WatermarkJoin y = Check.built(text);
                    y.mark(1 - side, 0, mark);
                    y.row(side, 0, 0, 1);
                    Check.due(text + " kept of side " + side + " that comes at " + mark, stays[side], y.kept(2, side));
                    Check.due("nor here", 0, y.told(4));
                }
            }
        }
    }

    /** "Then it is KEPT, unless it is FAR": a row that is far meets others, and takes no place of those that are kept. */
    private static void farRowsMeetAndTakeNoPlace() {
        WatermarkJoin x = Check.built(Check.sources(2) + "j=join a b from 0 to 100;");
        for (int i = 1; i <= 6; i++) {
            x.row(0, 0, 10 * i, 0);
        }
        x.row(1, 0, 65, 1);
        x.mark(1, 0, 104);
        Check.due("10 + 100 is above 104", 6, x.kept(2, 0));
        Check.due("a row that is far", 1, x.row(0, 0, 4, 1));
        Check.due("met the other", "2 65 1 1", Check.outs(x, 0));
        Check.due("none went for it", 6, x.kept(2, 0));
        Check.due("none is lost", 0, x.told(4));
        x.row(0, 0, 5, 1);
        Check.due("5 + 100 is above 104: it is kept", 6, x.kept(2, 0));
        Check.due("and one went for it", 1, x.told(4));
    }

    /** "KEPT rows that are FAR go": the others stay as they are, in the order in which they came. */
    private static void whatIsLeftOfFarRows() {
        for (int side = 0; side < 2; side++) {
            WatermarkJoin x = Check.built(Check.sources(2) + "j=join a b from -5 to 5;");
            int[] times = {9, 1, 8, 2, 7, 3};
            for (int time : times) {
                x.row(side, 0, time, 9 - time);
            }
            x.mark(1 - side, 0, 8);
            Check.due("3 and 5 is not above 8, 7 and 5 is", 3, x.kept(2, side));
            for (int time : new int[] {1, 2, 3}) {
                x.row(1 - side, 0, 9, 9 - time);
            }
            Check.due("those that went meet no more", 0, x.told(2));
            for (int time : new int[] {7, 8, 9}) {
                x.row(1 - side, 0, 10, 9 - time);
            }
            Check.due("the others do", "2 10 2 1, 2 10 1 1, 2 10 0 1", Check.outs(x, 0));
            x.row(side, 0, 8, 1);
            Check.due("and there is room for more", 4, x.kept(2, side));
            Check.due("none is lost", 0, x.told(4));
            x.row(1 - side, 0, 11, 1);
            Check.due("what was left came first", "2 11 1 1, 2 11 1 1", Check.outs(x, 4));
        }
    }

    /** FAR asks for the other input's WATERMARK: not for the join's own one, nor for that of its own input. */
    private static void farByTheOtherInput() {
        WatermarkJoin x = Check.built(Check.sources(2) + "j=join a b from -5 to 5;");
        x.row(0, 0, 10, 0);
        x.row(1, 0, 10, 1);
        x.mark(0, 0, 14);
        Check.due("a's own watermark", 1, x.kept(2, 0));
        Check.due("10 + 5 is above 14", 1, x.kept(2, 1));
        x.mark(0, 0, 15);
        Check.due("10 + 5 is not above 15", 0, x.kept(2, 1));
        Check.due("the join's watermark is not needed", START, x.watermark(2));
        x.idle(1, 0, true);
        Check.due("the join goes on without b", 15, x.watermark(2));
        Check.due("b's watermark is START still", 1, x.kept(2, 0));
        x.end(1, 0);
        Check.due("and END then", 0, x.kept(2, 0));
    }

    /**
     * "a WEIGHT (of 32 bits, wrapping)": three joins and three windows make weights of 96 n^3 out of 3 n + 6 rows, so that
     * none wraps within 512 calls; these are nearly the greatest ones that can be.
     */
    private static void weightsAreGreat() {
        WatermarkJoin x = Check.built(Check.sources(4) + "j=join a b from 0 to 0;t=window j size 4 step 1;"
            + "k=join c t from 0 to 9;u=window k size 40 step 10;l=join d u from 0 to 99;v=window l size 99 step 99;");
        for (int i = 0; i < 6; i++) {
            x.row(1, 0, 1, 0);
        }
        x.end(1, 0);
        for (int source : new int[] {0, 2, 3}) {
            for (int i = 0; i < 150; i++) {
                x.row(source, 0, 1, 0);
            }
            x.end(source, 0);
        }
        Check.due("96 * 150 * 150 * 150", "9 98 0 324000000", Check.outs(x, 0));
        Check.due("rows or weights that were lost", 0, x.told(4));
    }

    /** "the least PROMISE of its ACTIVE parts; without such: END, if all its parts are ENDED, else none" */
    private static void goalsOfSources() {
        WatermarkJoin x = Check.built("a=source 4 marks;");
        x.mark(0, 0, 4);
        x.mark(0, 1, 3);
        x.mark(0, 2, 2);
        Check.due("one at START", START, x.watermark(0));
        x.mark(0, 3, 1);
        Check.due("the least of four", 1, x.watermark(0));
        x.idle(0, 3, true);
        Check.due("the least of three", 2, x.watermark(0));
        x.end(0, 2);
        Check.due("the least of two", 3, x.watermark(0));
        x.idle(0, 3, false);
        Check.due("it never sinks", 3, x.watermark(0));
        x.idle(0, 3, true);
        x.end(0, 1);
        x.end(0, 0);
        Check.due("three are ended, one is idle", 4, x.watermark(0));
        Check.due("no goal", true, x.isIdle(0));
        x.end(0, 3);
        Check.due("all are ended", END, x.watermark(0));
        Check.due("a goal", false, x.isIdle(0));
        WatermarkJoin y = Check.built("a=source 4 marks;");
        for (int part = 0; part < 4; part++) {
            Check.due("not idle yet", false, y.isIdle(0));
            y.idle(0, part, true);
        }
        Check.due("all are idle", true, y.isIdle(0));
        Check.due("START stays", START, y.watermark(0));
    }

    /** "the least WATERMARK of those inputs that are not IDLE and whose WATERMARK is not END .." */
    private static void goalsOfUnionsAndJoins() {
        for (String taker : new String[] {"s=union a b;", "s=join a b from 0 to 0;"}) {
            WatermarkJoin x = Check.built(Check.sources(2) + taker);
            x.mark(0, 0, 7);
            Check.due(taker + " one at START", START, x.watermark(2));
            x.mark(1, 0, 5);
            Check.due(taker + " the least", 5, x.watermark(2));
            x.mark(1, 0, 9);
            Check.due(taker + " the other one", 7, x.watermark(2));
            x.end(0, 0);
            Check.due(taker + " without the one at END", 9, x.watermark(2));
            Check.due(taker + " not idle", false, x.isIdle(2));
            x.idle(1, 0, true);
            Check.due(taker + " one at END, one idle: none", true, x.isIdle(2));
            Check.due(taker + " it stays", 9, x.watermark(2));
            x.end(1, 0);
            Check.due(taker + " all at END", END, x.watermark(2));
            Check.due(taker + " not idle", false, x.isIdle(2));
            WatermarkJoin y = Check.built(Check.sources(2) + taker);
            y.mark(0, 0, 5);
            y.idle(0, 0, true);
            y.mark(1, 0, 8);
            Check.due(taker + " without the idle one", 8, y.watermark(2));
            y.idle(1, 0, true);
            Check.due(taker + " both idle: none", true, y.isIdle(2));
            y.idle(0, 0, false);
            Check.due(taker + " one is back", false, y.isIdle(2));
            Check.due(taker + " it never sinks", 8, y.watermark(2));
        }
    }

    /** "none, if the input is IDLE; else its WATERMARK (and DELAY together)" */
    private static void goalsOfDelaysAndWindows() {
        for (String taker : new String[] {"s=delay a 3;", "s=window a size 5 step 5;"}) {
            int more = taker.contains("delay") ? 3 : 0;
            WatermarkJoin x = Check.built("a=source 2 marks;" + taker);
            x.mark(0, 0, -8);
            x.mark(0, 1, -7);
            Check.due(taker, -8 + more, x.watermark(1));
            x.idle(0, 0, true);
            Check.due(taker, -7 + more, x.watermark(1));
            x.idle(0, 1, true);
            Check.due(taker + " idle", true, x.isIdle(1));
            Check.due(taker + " it stays", -7 + more, x.watermark(1));
            x.mark(0, 1, 0);
            Check.due(taker + " back", false, x.isIdle(1));
            Check.due(taker + " goes on", more, x.watermark(1));
        }
    }

    /** "the least of these less 1, or the input's WATERMARK (its own one, if the input is IDLE), whichever is less" */
    private static void goalsOfHolds() {
        WatermarkJoin x = Check.built("a=source 1 marks;h=hold a;");
        x.mark(0, 0, 1);
        Check.due("without times", 1, x.watermark(1));
        x.hold(1, 10);
        x.mark(0, 0, 8);
        Check.due("the input is less than 9", 8, x.watermark(1));
        x.mark(0, 0, 9);
        Check.due("both are 9", 9, x.watermark(1));
        x.mark(0, 0, 10);
        Check.due("10 less 1 is less", 9, x.watermark(1));
        x.idle(0, 0, true);
        Check.due("idle input: its own one", 9, x.watermark(1));
        Check.due("not idle", false, x.isIdle(1));
        x.release(0, false, 0);
        Check.due("without times none", true, x.isIdle(1));
        Check.due("it stays", 9, x.watermark(1));
        x.hold(1, 30);
        Check.due("not idle with one again", false, x.isIdle(1));
        Check.due("its own one, though 29 is above it", 9, x.watermark(1));
        x.mark(0, 0, 40);
        Check.due("30 less 1", 29, x.watermark(1));
        x.end(0, 0);
        Check.due("30 less 1 at the input's END too", 29, x.watermark(1));
        x.release(1, false, 0);
        Check.due("END", END, x.watermark(1));
        WatermarkJoin y = Check.built("a=source 1 marks;h=hold a;b=source 1 marks;i=hold b;");
        y.hold(1, 5);
        y.mark(0, 0, 20);
        y.mark(2, 0, 20);
        Check.due("held in one", 4, y.watermark(1));
        Check.due("and not in the other", 20, y.watermark(3));
    }

    /** "each open SUM whose SPAN's LAST time is not above the WATERMARK, by beginnings, of like ones by KEYS" */
    private static void sumsThatAreOver() {
        for (int mark = 2; mark <= 10; mark++) {
            WatermarkJoin x = Check.built("a=source 1 marks;w=window a size 4 step 2;");
            x.row(0, 0, 5, 8);
            x.row(0, 0, 4, 3);
            x.row(0, 0, 6, 0);
            Check.due("open", 6, x.kept(1, 0));
            x.mark(0, 0, mark);
            String due = (mark >= 5 ? "1 5 3 1, 1 5 8 1" : "") + (mark >= 7 ? ", 1 7 0 1, 1 7 3 1, 1 7 8 1" : "")
                + (mark >= 9 ? ", 1 9 0 1" : "");
            Check.due("over at " + mark, due, Check.outs(x, 0));
            Check.due("open at " + mark, mark >= 9 ? 0 : mark >= 7 ? 1 : mark >= 5 ? 4 : 6, x.kept(1, 0));
        }
    }

    /** RECKONING goes by numbers: a sum that is over comes to the next stream ahead of the watermark that it is over by. */
    private static void sumsComeAheadOfTheWatermark() {
        for (String taker : new String[] {"s=hold w;", "s=delay w 0;", "s=window w size 1 step 1;"}) {
            WatermarkJoin x = Check.built("a=source 1 marks;w=window a size 5 step 5;" + taker);
            x.row(0, 0, 4, 1);
            x.mark(0, 0, 4);
            Check.due(taker + " watermark", 4, x.watermark(2));
            Check.due(taker + " is not late", 0, x.told(3));
            Check.due(taker + " out", "2 4 1 1", Check.outs(x, 0));
        }
    }

    /** "RECKONING is done once": one mark goes through all twelve streams. */
    private static void oneReckoningThroughAllStreams() {
        StringBuilder s = new StringBuilder("a=source 1 marks;");
        for (char c = 'b'; c < 'm'; c++) {
            s.append(c).append("=delay ").append((char) (c - 1)).append(" 1;");
        }
        WatermarkJoin x = Check.built(s.toString());
        x.mark(0, 0, 100);
        Check.due("the twelfth", 111, x.watermark(11));
        x.idle(0, 0, true);
        Check.due("idle, the twelfth too", true, x.isIdle(11));
        x.row(0, 0, 101, 0);
        Check.due("back", false, x.isIdle(11));
        Check.due("out of the twelfth", "11 112 0 1", Check.outs(x, 0));
        x.end(0, 0);
        Check.due("END", END, x.watermark(11));
    }

    public static void main(String[] args) {
        keysFromZeroToNine();
        timesOfCalls();
        sumsAreHeld();
        heldRowsAreLate();
        startAndEndStay();
        stoppedAboveTheSpan();
        onlyActivePartsOfAlignedGroupsStop();
        outWhereNothingTakes();
        lateWhenNotAbove();
        lateWithItsWeight();
        spansOfATime();
        spansFarBelowZero();
        lastTimesAreHeld();
        twentyFourOpenSums();
        lostByEachSpan();
        rowsThatMeet();
        rowsThatMeetFarOff();
        rowsOfOtherKeys();
        sixKeptRows();
        farRows();
        farRowsMeetAndTakeNoPlace();
        whatIsLeftOfFarRows();
        farByTheOtherInput();
        weightsAreGreat();
        goalsOfSources();
        goalsOfUnionsAndJoins();
        goalsOfDelaysAndWindows();
        goalsOfHolds();
        sumsThatAreOver();
        sumsComeAheadOfTheWatermark();
        oneReckoningThroughAllStreams();
        Check.finish();
    }
}
