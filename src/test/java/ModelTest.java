import java.util.ArrayList;
import java.util.List;
import java.util.function.LongSupplier;

/** Runs of calls, drawn by a fixed row of numbers, on the class and on the model: all answers must be the same. */
public final class ModelTest {
    private static final long MOST_TIME = 100_000_000_000_000_000L;

    private long seed;
    private WatermarkJoin x;
    private Model m;
    private final List<String> log = new ArrayList<>();
    private boolean differs;
    private int outsSeen;
    private int latesSeen;
    private int ticketsSeen;

    private ModelTest(long seed) {
        this.seed = seed * 0x9E3779B97F4A7C15L + 12345;
    }

    private int draw(int bound) {
        seed = seed * 6364136223846793005L + 1442695040888963407L;
        return (int) ((seed >>> 33) % bound);
    }

    private boolean chance(int percent) {
        return draw(100) < percent;
    }

    private String pick(String... from) {
        return from[draw(from.length)];
    }

    // ---- texts

    private String wildNumber() {
        return pick("0", "1", "2", "3", "4", "5", "007", "1000", "1001", "1000000", "1000001", "250000", "249999",
            "999999999999999999", "1000000000000000000", "000000000000000001", "123456789012345678");
    }

    private String lagOrMarks() {
        int kind = draw(10);
        return kind < 6 ? "lag " + draw(8) : kind < 9 ? "marks" : "lag " + pick("999999999999999999", "0", "100");
    }

    private String delay() {
        return chance(12) ? pick("999999999999999999", "123456789012345678") : "" + draw(6);
    }

    private String join() {
        int from = draw(12) - 8;
        int to = from + draw(10);
        if (chance(5)) {
            return "from - 999999999999999999 to 999999999999999999";
        }
        return "from " + (from < 0 ? "-" + -from : from) + " to " + (to < 0 ? "-" + -to : to);
    }

    private String window() {
        int step = 1 + draw(5);
        int size = step + draw(3 * step + 1);
        if (chance(5)) {
            return pick("size 1000000 step 250000", "size 1000000 step 1000000", "size 1 step 1", "size 7 step 2");
        }
        return "size " + size + " step " + step;
    }

    /** A text without a fault, or nearly so: streams that are not taken yet are taken as it goes. */
    private String text() {
        int most = 2 + draw(12);
        int joins = 0;
        int windows = 0;
        List<String> free = new ArrayList<>();
        StringBuilder s = new StringBuilder();
        for (int i = 0; i < most; i++) {
            if (chance(20)) {
                s.append("align ").append(draw(4)).append(" ").append(draw(6)).append(";");
            }
            String name = chance(3) ? pick("a", "b", "abcdefgh", "sources", "tox") : "" + (char) ('a' + i) + pick("", "x", "q");
            s.append(name).append(pick("=", " = ")).append("");
            int kind = draw(10);
            if (free.isEmpty() || kind < 3) {
                s.append("source ").append(1 + draw(4)).append(" ").append(lagOrMarks());
                s.append(chance(50) ? " after " + (1 + draw(4)) : "").append(chance(50) ? " group " + draw(2) : "");
            } else if (kind == 3 && free.size() > 1) {
                s.append("union");
                for (int k = Math.min(free.size(), 2 + draw(3)); k > 0; k--) {
                    s.append(" ").append(free.remove(draw(free.size())));
                }
            } else if (kind < 7 && free.size() > 1 && joins < 3) {
                joins++;
                s.append("join ").append(free.remove(draw(free.size()))).append(" ");
                s.append(free.remove(draw(free.size()))).append(" ").append(join());
            } else if (kind == 7) {
                s.append("delay ").append(free.remove(draw(free.size()))).append(" ").append(delay());
            } else if (kind == 8 || windows == 3) {
                s.append("hold ").append(free.remove(draw(free.size())));
            } else {
                windows++;
                s.append("window ").append(free.remove(draw(free.size()))).append(" ").append(window());
            }
            s.append(pick(";", " ;\n"));
            free.add(name);
        }
        return s.toString();
    }

    /** A chain of delays so long that times are HELD, with a window or a join behind it. */
    private String longText() {
        StringBuilder s = new StringBuilder("a=source 1 marks;z=source 1 marks;b=delay a 999999999999999999;");
        for (char c = 'c'; c < 'j'; c++) {
            s.append(c).append("=delay ").append((char) (c - 1)).append(" ");
            s.append(c == 'i' ? pick("899999999999999999", "999999999999999999", "900000000000000000") : "999999999999999999");
            s.append(";");
        }
        int step = 1 + draw(900000);
        int size = Math.min(1000000, step + draw(3 * step + 1));
        s.append(chance(70) ? "w=window i size " + size + " step " + step + ";" : "w=join i z from -5 to 7;");
        return s.toString();
    }

    private String garbled(String text) {
        StringBuilder s = new StringBuilder(text);
        for (int k = 1 + draw(2); k > 0 && s.length() > 0; k--) {
            int at = draw(s.length());
            switch (draw(6)) {
                case 0 -> s.deleteCharAt(at);
                case 1 -> s.insert(at, pick(";", "=", "-", "a", "9", " ", "#", "A", "\u00ff", "\0", "\t"));
                case 2 -> s.insert(at, " " + wildNumber() + " ");
                case 3 -> s.insert(at, " " + pick(Model.KEYWORDS.toArray(new String[0])) + " ");
                case 4 -> s.setLength(at);
                default -> {
                    String swapped = s.toString().replaceFirst("[0-9]+(?=[^0-9]*.{" + draw(20) + "}$)", wildNumber());
                    s = new StringBuilder(swapped);
                }
            }
        }
        return s.toString();
    }

    private String manyText() {
        StringBuilder s = new StringBuilder();
        int kind = draw(4);
        int most = kind == 0 ? 12 + draw(2) : kind == 1 ? 19 + draw(3) : 8;
        if (kind < 2) {
            for (int i = 0; i < most; i++) {
                s.append(kind == 1 && i < 4 ? "align " + i + " 5;" : (char) ('a' + i % 25) + "=source 1 marks;");
            }
            s.append(pick("", "a", "zz=", "align", "align 0", ";", "source", "#", "9", "abcdefghi"));
        } else {
            String word = kind == 2 ? "join" : "window";
            for (int i = 0; i < 8; i++) {
                s.append((char) ('a' + i)).append("=source 1 marks;");
            }
            for (int i = 0; i < 4; i++) {
                s.append((char) ('p' + i)).append("=").append(word).append(" ").append((char) ('a' + 2 * i));
                s.append(kind == 2 ? " " + (char) ('b' + 2 * i) + " from 0 to 1;" : " size 1 step 1;");
            }
        }
        return s.toString();
    }

    // ---- calls

    private void same(String call, LongSupplier mine, LongSupplier due) {
        log.add(call);
        long want = modelAnswer(due);
        long got = Check.answer(mine);
        if (want != got && !differs) {
            differs = true;
            System.out.println("a run differs at its last call: " + String.join("; ", log));
        }
        Check.due(call, want, got);
    }

    private static long modelAnswer(LongSupplier call) {
        try {
            return call.getAsLong();
        } catch (IllegalStateException e) {
            return Check.ILLEGAL_STATE;
        } catch (IndexOutOfBoundsException e) {
            return Check.OUT_OF_BOUNDS;
        }
    }

    private void feedAndBuild(String text) {
        for (int i = 0; i < text.length(); ) {
            int n = Math.min(text.length() - i, 1 + draw(8));
            long w = draw(2) == 0 ? 0 : -1;
            for (int k = 0; k < n; k++) {
                w = w << 8 | text.charAt(i + k) & 255;
            }
            i += n;
            long word = w;
            same("feed(" + word + ", " + n + ")", () -> x.feed(word, n), () -> m.feed(word, n));
        }
        same("build() of [" + text + "]", () -> x.build(), () -> m.build());
        same("fault()", () -> x.fault(), () -> m.fault);
        outsSeen = 0;
        latesSeen = 0;
        ticketsSeen = 0;
    }

    private long time(int base) {
        int kind = draw(40);
        if (kind == 0) {
            return pick("a", "b").equals("a") ? MOST_TIME : -MOST_TIME;
        }
        if (kind == 1) {
            return pick("a", "b").equals("a") ? MOST_TIME + 1 : Long.MIN_VALUE;
        }
        return base + draw(14) - 6;
    }

    private int stream() {
        return chance(3) ? draw(16) - 2 : draw(Math.max(1, x.told(0)));
    }

    private int part() {
        return chance(3) ? draw(8) - 2 : draw(chance(50) ? 2 : 4);
    }

    private int key() {
        return chance(2) ? pick("a", "b").equals("a") ? 10 : -1 : draw(3);
    }

    private int sourceStream() {
        for (int tries = 0; tries < 8; tries++) {
            int s = stream();
            if (x.part(s, 0) >= 0) {
                return s;
            }
        }
        return stream();
    }

    private int holdStream() {
        for (Model.Node n : m.streams) {
            if (n.kind.equals("hold") && chance(60)) {
                return n.number;
            }
        }
        return stream();
    }

    private void act(int base) {
        int s = sourceStream();
        int p = part();
        int k = key();
        long t = time(base);
        switch (draw(20)) {
            case 0, 1, 2, 3, 4, 5, 6, 7, 8 ->
                same("row(" + s + "," + p + "," + t + "," + k + ")", () -> x.row(s, p, t, k), () -> m.row(s, p, t, k));
            case 9, 10, 11, 12 -> {
                long low = t - draw(8);
                same("mark(" + s + "," + p + "," + low + ")", () -> x.mark(s, p, low), () -> m.mark(s, p, low));
            }
            case 13 -> {
                if (chance(20)) {
                    same("end(" + s + "," + p + ")", () -> x.end(s, p), () -> m.end(s, p));
                }
            }
            case 14, 15 -> {
                boolean on = chance(50);
                same("idle(" + s + "," + p + "," + on + ")", () -> x.idle(s, p, on), () -> m.idle(s, p, on));
            }
            case 16 -> {
                int n = chance(90) ? 1 + draw(2) : Integer.parseInt(pick("0", "-1", "1000", "1001", "5"));
                same("turn(" + n + ")", () -> x.turn(n), () -> m.turn(n));
            }
            case 17, 18 -> {
                int h = holdStream();
                same("hold(" + h + "," + t + ")", () -> x.hold(h, t), () -> m.hold(h, t));
                ticketsSeen++;
            }
            default -> {
                int ticket = draw(ticketsSeen + 2) - 1;
                boolean emits = chance(60);
                same("release(" + ticket + "," + emits + "," + k + ")", () -> x.release(ticket, emits, k),
                    () -> m.release(ticket, emits, k));
            }
        }
    }

    private void look() {
        for (int i = -1; i <= 12; i++) {
            int s = i;
            same("watermark(" + s + ")", () -> x.watermark(s), () -> m.watermark(s));
            same("isIdle(" + s + ")", () -> x.isIdle(s) ? 1 : 0, () -> m.isIdle(s) ? 1 : 0);
            for (int k = -1; k <= 4; k++) {
                int p = k;
                same("promise(" + s + "," + p + ")", () -> x.promise(s, p), () -> m.promise(s, p));
                same("part(" + s + "," + p + ")", () -> x.part(s, p), () -> m.part(s, p));
                if (k < 3) {
                    same("kept(" + s + "," + p + ")", () -> x.kept(s, p), () -> m.kept(s, p));
                }
            }
        }
        for (int i = -1; i <= 9; i++) {
            int what = i;
            same("told(" + what + ")", () -> x.told(what), () -> m.told(what));
        }
        lookAtNotes();
        same("print()", () -> x.print(), () -> m.print());
        for (int i = -1; i <= m.written.length(); i++) {
            int at = i;
            same("letter(" + at + ")", () -> x.letter(at), () -> m.letter(at));
        }
    }

    private void lookAtNotes() {
        for (int i = Math.max(0, outsSeen) - 1; i <= Math.min(301, m.outs.size()); i++) {
            for (int what = -1; what <= 4; what++) {
                int at = i;
                int of = what;
                same("out(" + at + "," + of + ")", () -> x.out(at, of), () -> m.out(at, of));
            }
        }
        for (int i = Math.max(0, latesSeen) - 1; i <= Math.min(201, m.lates.size()); i++) {
            for (int what = -1; what <= 4; what++) {
                int at = i;
                int of = what;
                same("late(" + at + "," + of + ")", () -> x.late(at, of), () -> m.late(at, of));
            }
        }
        outsSeen = m.outs.size();
        latesSeen = m.lates.size();
    }

    private void run(int kind, int calls) {
        x = new WatermarkJoin();
        m = new Model();
        if (chance(10)) {
            act(0);
            look();
        }
        feedAndBuild(kind == 0 ? garbled(text()) : kind == 1 ? longText() : kind == 2 ? manyText() : text());
        int base = 0;
        for (int i = 0; i < calls && !differs; i++) {
            int before = log.size();
            act(base);
            int acted = log.size();
            if (chance(25)) {
                base += draw(4);
            }
            look();
            if (!differs) {
                // Looking changes nothing: only what was done is told when a run differs.
                log.subList(acted, log.size()).clear();
            }
            if (chance(1)) {
                feedAndBuild(chance(50) ? garbled(text()) : text());
            }
            if (log.size() < before) {
                throw new IllegalStateException("the log of the test itself is wrong");
            }
        }
    }

    public static void main(String[] args) {
        int runs = args.length > 0 ? Integer.parseInt(args[0]) : 320;
        int seen = 0;
        int lost = 0;
        for (int i = 0; i < runs && Check.wrongSoFar() == 0; i++) {
            ModelTest test = new ModelTest(i);
            int kind = i % 8;
            test.run(kind, kind == 0 || kind == 2 ? 5 : 120);
            seen += test.m.outs.size() + test.m.lates.size();
            lost += test.m.lost;
        }
        System.out.println(seen + " rows noted, " + lost + " lost");
        Check.finish();
    }
}
