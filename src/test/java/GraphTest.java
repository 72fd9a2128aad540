/** How rows are passed on and watermarks are reckoned (2 ROWS and 3 WATERMARKS), worked out by hand. */
public final class GraphTest {
    private static final long START = WatermarkJoin.START;
    private static final long END = WatermarkJoin.END;
    private static final long MOST = 100_000_000_000_000_000L;
    private static final long HELD = 8_000_000_000_000_000_000L;

    private static void unions() {
        WatermarkJoin x = Check.built("a=source 1 marks;b=source 1 marks;c=source 1 marks;d=source 1 marks;u=union d c b a;");
        x.mark(0, 0, 5);
        x.mark(1, 0, 9);
        x.mark(2, 0, 7);
        Check.due("union: the fourth promises nothing", START, x.watermark(4));
        x.idle(3, 0, true);
        Check.due("union: idle inputs do not count", 5, x.watermark(4));
        x.end(0, 0);
        Check.due("union: nor those at END", 7, x.watermark(4));
        x.idle(2, 0, true);
        Check.due("union: nor those that fall idle", 9, x.watermark(4));
        x.idle(1, 0, true);
        Check.due("union: idle, though one is at END", 1, x.isIdle(4) ? 1 : 0);
        Check.due("union: row above its part's promise, late at the union", 1, x.row(2, 0, 8, 2));
        Check.due("union: late there", "4 8 2 1", Check.late(x, 0));
        Check.due("union: its watermark stays", 9, x.watermark(4));
        x.row(2, 0, 10, 2);
        Check.due("union: out", "4 10 2 1", Check.out(x, 0));
        x.end(1, 0);
        x.end(2, 0);
        Check.due("union: not END while one is idle", 9, x.watermark(4));
        x.end(3, 0);
        Check.due("union: END", END, x.watermark(4));
        Check.due("union: not idle", 0, x.isIdle(4) ? 1 : 0);
    }

    private static void delays() {
        WatermarkJoin x = Check.built("a=source 2 marks;d=delay a 10;e=delay d 0;");
        Check.due("delay: START stays", START, x.watermark(1));
        x.mark(0, 0, 5);
        x.mark(0, 1, 7);
        Check.due("delay: watermark", 15, x.watermark(1));
        x.row(0, 0, 6, 1);
        Check.due("delay: out with its new time", "2 16 1 1", Check.out(x, 0));
        x.idle(0, 0, true);
        x.idle(0, 1, true);
        Check.due("delay: idle", 1, x.isIdle(2) ? 1 : 0);
        Check.due("delay: stays", 17, x.watermark(2));
        x.end(0, 0);
        x.end(0, 1);
        Check.due("delay: END stays", END, x.watermark(2));
    }

    private static void heldTimes() {
        StringBuilder s = new StringBuilder("a=source 1 marks;b=delay a 999999999999999999;");
        for (char c = 'c'; c < 'i'; c++) {
            s.append(c).append("=delay ").append((char) (c - 1)).append(" 999999999999999999;");
        }
        // Eight delays in all: 7 of them by 10^18 - 1, the last by less.
        WatermarkJoin x = Check.built(s + "i=delay h 900000000000000005;w=window i size 7 step 3;");
        Check.due("held: a row", 1, x.row(0, 0, MOST, 1));
        Check.due("held: the spans that have 8 * 10^18 - 2", 3, x.kept(9, 0));
        x.row(0, 0, MOST - 20, 1);
        x.end(0, 0);
        // 8 * 10^18 - 2 is a multiple of 3: its spans begin there, 3 and 6 below, and two of the LAST times are HELD.
        // The time 20 below lies in those that begin at 8 * 10^18 - 26 and - 23; - 29 ends at - 23.
        Check.due("held: out", "9 7999999999999999980 1 1, 9 7999999999999999983 1 1, 9 7999999999999999998 1 1, "
            + "9 8000000000000000000 1 1, 9 8000000000000000000 1 1", Check.outs(x, 0));
        WatermarkJoin y = Check.built(s + "i=delay h 999999999999999999;z=source 1 marks;j=join i z from 5 to 9;");
        y.mark(0, 0, MOST - 1);
        Check.due("held: the watermark", HELD, y.watermark(8));
        Check.due("held: not above it", 1, y.row(0, 0, MOST, 3));
        Check.due("held: late at the last delay", "8 8000000000000000000 3 1", Check.late(y, 0));
    }

    private static final String TWO = "a=source 1 marks;b=source 1 marks;";

    private static void joins() {
        WatermarkJoin x = Check.built(TWO + "j=join a b from -2 to 3;");
        x.row(0, 0, 10, 1);
        x.row(1, 0, 7, 1);
        Check.due("join: 7 is below 10 - 2", 0, x.told(2));
        x.row(1, 0, 8, 1);
        x.row(1, 0, 13, 1);
        x.row(1, 0, 14, 1);
        x.row(1, 0, 9, 2);
        Check.due("join: 8 to 13, the later time", "2 10 1 1, 2 13 1 1", Check.outs(x, 0));
        x.row(0, 0, 11, 1);
        Check.due("join: in the order in which they came", "2 13 1 1, 2 14 1 1", Check.outs(x, 2));
        Check.due("join: kept", 2, x.kept(2, 0));
        Check.due("join: kept", 5, x.kept(2, 1));
        x.mark(1, 0, 12);
        Check.due("join: 10 + 3 is above 12", 2, x.kept(2, 0));
        x.mark(1, 0, 13);
        Check.due("join: 10 + 3 is not above 13", 1, x.kept(2, 0));
        x.mark(0, 0, 10);
        Check.due("join: 7 + 2, 8 + 2 are not above 10", 3, x.kept(2, 1));
        Check.due("join: what is far is not lost", 0, x.told(4));
        Check.due("join: watermark", 10, x.watermark(2));
        x.row(0, 0, 11, 1);
        x.row(1, 0, 14, 1);
        Check.due("join: out", "2 13 1 1, 2 14 1 1, 2 14 1 1, 2 14 1 1", Check.outs(x, 4));
        x.end(1, 0);
        Check.due("join: the first input has no row that can meet", 0, x.kept(2, 0));
        x.row(0, 0, 13, 1);
        Check.due("join: a far row meets, and is not kept", 0, x.kept(2, 0));
        Check.due("join: it met", "2 13 1 1, 2 14 1 1, 2 14 1 1", Check.outs(x, 8));
        Check.due("join: watermark of the other", 10, x.watermark(2));
        x.idle(0, 0, true);
        Check.due("join: idle", 1, x.isIdle(2) ? 1 : 0);
        x.end(0, 0);
        Check.due("join: END", END, x.watermark(2));
        Check.due("join: all are far", 0, x.kept(2, 1));
    }

    private static void joinsThatAreFull() {
        WatermarkJoin x = Check.built(TWO + "j=join a b from -100 to 100;");
        for (int i = 1; i <= 8; i++) {
            x.row(0, 0, i, 0);
        }
        Check.due("full join: 6 are kept", 6, x.kept(2, 0));
        Check.due("full join: 2 are lost", 2, x.told(4));
        x.row(1, 0, 5, 0);
        Check.due("full join: the first ones went", "2 5 0 1, 2 5 0 1, 2 5 0 1, 2 6 0 1, 2 7 0 1, 2 8 0 1",
            Check.outs(x, 0));
        x.mark(0, 0, 200);
        Check.due("full join: 5 + 100 is not above 200", 0, x.kept(2, 1));
        x.mark(1, 0, 104);
        Check.due("full join: 3 + 100 and 4 + 100 are not above 104", 4, x.kept(2, 0));
    }

    private static void lateAtJoin() {
        WatermarkJoin x = Check.built("a=source 2 marks;b=source 1 marks;j=join a b from -9 to 9;");
        x.mark(1, 0, 20);
        x.mark(0, 0, 10);
        x.mark(0, 1, 10);
        x.idle(0, 0, true);
        x.idle(0, 1, true);
        Check.due("late at a join: idle inputs do not count", 20, x.watermark(2));
        Check.due("late at a join: a row above its source's watermark", 1, x.row(0, 0, 15, 1));
        Check.due("late at a join: it is late there", "2 15 1 1", Check.late(x, 0));
        Check.due("late at a join: and not kept", 0, x.kept(2, 0));
    }

    /** What comes of a joined row comes ahead of the next one. */
    private static void chains() {
        WatermarkJoin x = Check.built(TWO + "c=source 1 marks;j=join a b from -9 to 9;k=join j c from -9 to 9;");
        x.row(2, 0, 1, 1);
        x.row(2, 0, 2, 1);
        x.row(0, 0, 3, 1);
        x.row(0, 0, 4, 1);
        x.row(1, 0, 1, 1);
        Check.due("chain", "4 3 1 1, 4 3 1 1, 4 4 1 1, 4 4 1 1", Check.outs(x, 0));
        Check.due("chain: joined rows are kept", 2, x.kept(4, 0));
    }

    private static void windows() {
        WatermarkJoin x = Check.built("a=source 1 marks;w=window a size 6 step 3;");
        x.row(0, 0, -1, 1);
        Check.due("window: two spans", 2, x.kept(1, 0));
        x.row(0, 0, 0, 0);
        Check.due("window: -3 and 0, another key", 4, x.kept(1, 0));
        x.row(0, 0, 2, 1);
        x.row(0, 0, 2, 1);
        Check.due("window: -3 is open for key 1", 5, x.kept(1, 0));
        Check.due("window: side 1", 0, x.kept(1, 1));
        x.mark(0, 0, -2);
        Check.due("window: -6 to -1 is not over", 0, x.told(2));
        x.mark(0, 0, -1);
        Check.due("window: it is now", "1 -1 1 1", Check.outs(x, 0));
        x.mark(0, 0, 5);
        Check.due("window: by beginnings, then keys", "1 2 0 1, 1 2 1 3, 1 5 0 1, 1 5 1 2", Check.outs(x, 1));
        Check.due("window: none is open", 0, x.kept(1, 0));
        Check.due("window: late at the source first", 0, x.row(0, 0, 5, 1));
        WatermarkJoin y = Check.built("a=source 1 marks;w=window a size 4 step 1;");
        y.row(0, 0, 10, 5);
        y.end(0, 0);
        Check.due("window: four spans", "1 10 5 1, 1 11 5 1, 1 12 5 1, 1 13 5 1", Check.outs(y, 0));
        WatermarkJoin z = Check.built("a=source 1 marks;w=window a size 5 step 2;");
        z.row(0, 0, 4, 5);
        z.row(0, 0, 5, 5);
        z.end(0, 0);
        Check.due("window: 0, 2, 4 have 4; 2, 4 have 5", "1 4 5 1, 1 6 5 2, 1 8 5 2", Check.outs(z, 0));
    }

    private static void fullWindows() {
        WatermarkJoin x = Check.built("a=source 1 marks;w=window a size 2 step 1;");
        for (int i = 0; i < 23; i++) {
            x.row(0, 0, i, 0);
        }
        Check.due("full window: 24", 24, x.kept(1, 0));
        Check.due("full window: none is lost", 0, x.told(4));
        x.row(0, 0, 23, 0);
        Check.due("full window: 22 is open, 23 is lost", 1, x.told(4));
        x.row(0, 0, 5, 0);
        Check.due("full window: open ones go on", 1, x.told(4));
        x.row(0, 0, 5, 1);
        Check.due("full window: two weights", 3, x.told(4));
        Check.due("full window: 24", 24, x.kept(1, 0));
        x.mark(0, 0, 22);
        Check.due("full window: 23 rows", 23, x.told(2));
        Check.due("full window: sum", "1 6 0 3", Check.out(x, 6));
        x.end(0, 0);
        Check.due("full window: the last", "1 23 0 2", Check.out(x, 23));
    }

    /** Windows pass rows on in the midst of a reckoning, to streams whose watermarks are still the old ones. */
    private static void windowsInReckoning() {
        WatermarkJoin x = Check.built("a=source 1 marks;w=window a size 5 step 5;v=window w size 10 step 10;b=source 1 marks;"
            + "j=join v b from -100 to 100;");
        x.row(0, 0, 1, 1);
        x.row(0, 0, 2, 1);
        x.row(0, 0, 7, 1);
        x.row(0, 0, 8, 2);
        x.row(3, 0, 3, 1);
        x.row(3, 0, 4, 2);
        x.mark(0, 0, 4);
        Check.due("reckoning: one window into the other", 1, x.kept(2, 0));
        x.mark(0, 0, 9);
        Check.due("reckoning: through both and the join", "4 9 1 3, 4 9 2 1", Check.outs(x, 0));
        Check.due("reckoning: kept", 2, x.kept(4, 0));
        WatermarkJoin y = Check.built("a=source 1 marks;w=window a size 5 step 5;b=source 1 marks;u=union w b;");
        y.row(0, 0, 1, 1);
        y.idle(0, 0, true);
        y.mark(2, 0, 4);
        Check.due("reckoning: the union is ahead of an idle window", 4, y.watermark(3));
        y.mark(0, 0, 4);
        Check.due("reckoning: so its row is late", "3 4 1 1", Check.late(y, 0));
    }

    private static void weights() {
        WatermarkJoin x = Check.built("a=source 1 marks;b=source 1 marks;v=window a size 5 step 5;w=window b size 5 step 5;"
            + "j=join v w from 0 to 0;k=window j size 5 step 5;");
        for (int i = 0; i < 3; i++) {
            x.row(0, 0, 1, 4);
        }
        for (int i = 0; i < 5; i++) {
            x.row(1, 0, 1, 4);
        }
        x.mark(0, 0, 4);
        x.mark(1, 0, 4);
        Check.due("weights: the product", "5 4 4 15", Check.out(x, 0));
    }

    /** Twelve streams of all kinds, each taken by the next ones: a row goes through all of them. */
    private static void longestWay() {
        StringBuilder s = new StringBuilder("a=source 1 marks;");
        for (char c = 'b'; c < 'm'; c++) {
            s.append(c).append(c % 2 == 0 ? "=hold " : "=delay ").append((char) (c - 1)).append(c % 2 == 0 ? ";" : " 1;");
        }
        WatermarkJoin x = Check.built(s.toString());
        x.row(0, 0, 1, 1);
        Check.due("longest way", "11 6 1 1", Check.out(x, 0));
        x.mark(0, 0, 1);
        Check.due("longest way", 6, x.watermark(11));
    }

    private static void stops() {
        WatermarkJoin x = Check.built("align 1 10;a=source 2 marks group 1;b=source 1 marks group 1;c=source 1 marks group 2;"
            + "d=source 1 marks;");
        x.mark(2, 0, 1000);
        x.mark(3, 0, 1000);
        Check.due("stops: a group that is not aligned, and none", 0, x.told(7));
        x.mark(0, 0, 5);
        Check.due("stops: parts of the same source count", 3, x.part(0, 0));
        x.mark(0, 1, 30);
        Check.due("stops: two", 2, x.told(7));
        x.mark(1, 0, 19);
        Check.due("stops: 30 is above 5 + 10, 19 too", 2, x.told(7));
        Check.due("stops: row", WatermarkJoin.STOPPED, x.row(0, 1, 50, 0));
        x.idle(0, 0, true);
        Check.due("stops: 30 is above 19 + 10", 1, x.told(7));
        x.mark(1, 0, 20);
        Check.due("stops: 30 is not above 20 + 10", 0, x.told(7));
        x.idle(0, 0, false);
        Check.due("stops: back", 2, x.told(7));
        Check.due("stops: an idle part is not stopped", 1, x.idle(0, 1, true));
        Check.due("stops: so its row comes", 1, x.row(0, 1, 50, 0));
        Check.due("stops: and it is stopped then", 3, x.part(0, 1));
        x.end(0, 0);
        Check.due("stops: ended ones do not count", 0, x.told(7));
    }

    public static void main(String[] args) {
        unions();
        delays();
        heldTimes();
        joins();
        joinsThatAreFull();
        lateAtJoin();
        chains();
        windows();
        fullWindows();
        windowsInReckoning();
        weights();
        longestWay();
        stops();
        Check.finish();
    }
}
