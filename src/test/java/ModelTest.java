import java.util.ArrayList;
import java.util.List;
import java.util.function.LongSupplier;

/** Runs of calls, drawn by a fixed row of numbers, on the class and on the model: all answers must be the same. */
public final class ModelTest {
    private static final long MOST_TIME = 100_000_000_000_000_000L;
    // What an object answers behind these is free.
    private static final int MOST_CALLS = 512;
    // So many calls are left for a look at all that there is, when a run ends.
    private static final int CALLS_TO_LOOK = 190;

    private long seed;
    private WatermarkJoin x;
    private Model m;
    private final List<String> log = new ArrayList<>();
    private boolean differs;
    private int ticketsSeen;

    private ModelTest(long seed) {
        this.seed = seed * 0x9E3779B97F4A7C15L + 12345;
    }

    private int draw(int bound) {
        seed = seed * 6364136223846793005L + 1442695040888963407L;
        return (int) ((seed >>> 33) % bound);
    }

    private boolean chance(int percent) {
        return draw(100) < percent;
    }

    private String pick(String... from) {
        return from[draw(from.length)];
    }

    // ---- texts

    private String wildNumber() {
        return pick("0", "1", "2", "3", "4", "5", "007", "1000", "1001", "1000000", "1000001", "250000", "249999",
            "999999999999999999", "1000000000000000000", "000000000000000001", "123456789012345678");
    }

    private String lagOrMarks() {
        int kind = draw(10);
        return kind < 6 ? "lag " + draw(8) : kind < 9 ? "marks" : "lag " + pick("999999999999999999", "0", "100");
    }

    private String delay() {
        return chance(12) ? pick("999999999999999999", "123456789012345678") : "" + draw(6);
    }

    private String join() {
        int from = draw(12) - 8;
        int to = from + draw(10);
        if (chance(5)) {
            return "from - 999999999999999999 to 999999999999999999";
        }
        return "from " + (from < 0 ? "-" + -from : from) + " to " + (to < 0 ? "-" + -to : to);
    }

    private String window() {
        int step = 1 + draw(5);
        int size = step + draw(3 * step + 1);
        if (chance(5)) {
            return pick("size 1000000 step 250000", "size 1000000 step 1000000", "size 1 step 1", "size 7 step 2");
        }
        return "size " + size + " step " + step;
    }

    /** A text without a fault, or nearly so: streams that are not taken yet are taken as it goes. */
    private String text() {
        int most = 2 + draw(12);
        int joins = 0;
        int windows = 0;
        List<String> free = new ArrayList<>();
        StringBuilder s = new StringBuilder();
        for (int i = 0; i < most; i++) {
            if (chance(20)) {
                s.append("align ").append(draw(4)).append(" ").append(draw(6)).append(";");
            }
            String name = chance(3) ? pick("a", "b", "abcdefgh", "sources", "tox") : "" + (char) ('a' + i) + pick("", "x", "q");
            s.append(name).append(pick("=", " = ")).append("");
            int kind = draw(10);
            if (free.isEmpty() || kind < 3) {
                s.append("source ").append(1 + draw(4)).append(" ").append(lagOrMarks());
                s.append(chance(50) ? " after " + (1 + draw(4)) : "").append(chance(50) ? " group " + draw(2) : "");
            } else if (kind == 3 && free.size() > 1) {
                s.append("union");
                for (int k = Math.min(free.size(), 2 + draw(3)); k > 0; k--) {
                    s.append(" ").append(free.remove(draw(free.size())));
                }
            } else if (kind < 7 && free.size() > 1 && joins < 3) {
                joins++;
                s.append("join ").append(free.remove(draw(free.size()))).append(" ");
                s.append(free.remove(draw(free.size()))).append(" ").append(join());
            } else if (kind == 7) {
                s.append("delay ").append(free.remove(draw(free.size()))).append(" ").append(delay());
            } else if (kind == 8 || windows == 3) {
                s.append("hold ").append(free.remove(draw(free.size())));
            } else {
                windows++;
                s.append("window ").append(free.remove(draw(free.size()))).append(" ").append(window());
            }
            s.append(pick(";", " ;\n"));
            free.add(name);
        }
        return s.toString();
    }

    /** A chain of delays so long that times are HELD, with a window or a join behind it. */
    private String longText() {
        StringBuilder s = new StringBuilder("a=source 1 marks;z=source 1 marks;b=delay a 999999999999999999;");
        for (char c = 'c'; c < 'j'; c++) {
            s.append(c).append("=delay ").append((char) (c - 1)).append(" ");
            s.append(c == 'i' ? pick("899999999999999999", "999999999999999999", "900000000000000000") : "999999999999999999");
            s.append(";");
        }
        int step = 1 + draw(900000);
        int size = Math.min(1000000, step + draw(3 * step + 1));
        s.append(chance(70) ? "w=window i size " + size + " step " + step + ";" : "w=join i z from -5 to 7;");
        return s.toString();
    }

    private String garbled(String text) {
        StringBuilder s = new StringBuilder(text);
        for (int k = 1 + draw(2); k > 0 && s.length() > 0; k--) {
            int at = draw(s.length());
            switch (draw(6)) {
                case 0 -> s.deleteCharAt(at);
                case 1 -> s.insert(at, pick(";", "=", "-", "a", "9", " ", "#", "A", "\u00ff", "\0", "\t"));
                case 2 -> s.insert(at, " " + wildNumber() + " ");
                case 3 -> s.insert(at, " " + pick(Model.KEYWORDS.toArray(new String[0])) + " ");
                case 4 -> s.setLength(at);
                default -> {
                    String swapped = s.toString().replaceFirst("[0-9]+(?=[^0-9]*.{" + draw(20) + "}$)", wildNumber());
                    s = new StringBuilder(swapped);
                }
            }
        }
        return s.toString();
    }

    private String manyText() {
        StringBuilder s = new StringBuilder();
        int kind = draw(4);
        int most = kind == 0 ? 12 + draw(2) : kind == 1 ? 19 + draw(3) : 8;
        if (kind < 2) {
            for (int i = 0; i < most; i++) {
                s.append(kind == 1 && i < 4 ? "align " + i + " 5;" : (char) ('a' + i % 25) + "=source 1 marks;");
            }
            s.append(pick("", "a", "zz=", "align", "align 0", ";", "source", "#", "9", "abcdefghi"));
        } else {
            String word = kind == 2 ? "join" : "window";
            for (int i = 0; i < 8; i++) {
                s.append((char) ('a' + i)).append("=source 1 marks;");
            }
            for (int i = 0; i < 4; i++) {
                s.append((char) ('p' + i)).append("=").append(word).append(" ").append((char) ('a' + 2 * i));
                s.append(kind == 2 ? " " + (char) ('b' + 2 * i) + " from 0 to 1;" : " size 1 step 1;");
            }
        }
        return s.toString();
    }

    // ---- calls

    private void same(String call, LongSupplier mine, LongSupplier due) {
        if (log.size() == MOST_CALLS || differs) {
            return;
        }
        log.add(call);
        long want = Check.answer(due);
        long got = Check.answer(mine);
        if (want != got) {
            differs = true;
            System.out.println("a run differs at its last call: " + String.join("; ", log));
        }
        Check.due(call, want, got);
    }

    private int callsLeft() {
        return differs ? 0 : MOST_CALLS - log.size();
    }

    private void feedAndBuild(String text) {
        for (int i = 0; i < text.length(); ) {
            int n = Math.min(text.length() - i, chance(70) ? 8 : 1 + draw(8));
            long w = draw(2) == 0 ? 0 : -1;
            for (int k = 0; k < n; k++) {
                w = w << 8 | text.charAt(i + k) & 255;
            }
            i += n;
            long word = w;
            same("feed(" + word + ", " + n + ")", () -> x.feed(word, n), () -> m.feed(word, n));
        }
        same("build() of [" + text + "]", () -> x.build(), () -> m.build());
        same("fault()", () -> x.fault(), () -> m.fault);
        ticketsSeen = 0;
    }

    private long time(int base) {
        int kind = draw(60);
        if (kind == 0) {
            return chance(50) ? MOST_TIME : -MOST_TIME;
        }
        if (kind == 1) {
            return chance(50) ? MOST_TIME + 1 : Long.MIN_VALUE;
        }
        return base + draw(14) - 6;
    }

    private int stream() {
        return chance(3) ? draw(16) - 2 : draw(Math.max(1, m.streams.size()));
    }

    private int partOf(int stream) {
        Model.Node node = m.node(stream);
        return node == null || node.parts.isEmpty() || chance(3) ? draw(8) - 2 : draw(node.parts.size());
    }

    private int key() {
        return chance(2) ? draw(2) * 11 - 1 : draw(3);
    }

    private int sourceStream() {
        for (int tries = 0; tries < 12; tries++) {
            int s = stream();
            if (m.part(s, 0) >= 0) {
                return s;
            }
        }
        return stream();
    }

    private int holdStream() {
        for (Model.Node n : m.streams) {
            if (n.kind.equals("hold") && chance(60)) {
                return n.number;
            }
        }
        return stream();
    }

    private void mark(int s, int p, long t) {
        same("mark(" + s + "," + p + "," + t + ")", () -> x.mark(s, p, t), () -> m.mark(s, p, t));
    }

    /** Every part promises something: without that, all that is aligned stands still. */
    private void markAll() {
        for (Model.Node n : m.streams) {
            for (int p = 0; p < n.parts.size(); p++) {
                mark(n.number, p, draw(5) - 9);
            }
        }
    }

    private void act(int base) {
        int s = sourceStream();
        int p = partOf(s);
        int k = key();
        long t = time(base);
        switch (draw(20)) {
            case 0, 1, 2, 3, 4, 5, 6, 7, 8, 9 ->
                same("row(" + s + "," + p + "," + t + "," + k + ")", () -> x.row(s, p, t, k), () -> m.row(s, p, t, k));
            case 10, 11, 12 -> mark(s, p, t - draw(8));
            case 13 -> {
                if (chance(15)) {
                    same("end(" + s + "," + p + ")", () -> x.end(s, p), () -> m.end(s, p));
                }
            }
            case 14, 15 -> {
                boolean on = chance(40);
                same("idle(" + s + "," + p + "," + on + ")", () -> x.idle(s, p, on), () -> m.idle(s, p, on));
            }
            case 16 -> {
                int n = chance(90) ? 1 + draw(2) : Integer.parseInt(pick("0", "-1", "1000", "1001", "5"));
                same("turn(" + n + ")", () -> x.turn(n), () -> m.turn(n));
            }
            case 17, 18 -> {
                int h = holdStream();
                same("hold(" + h + "," + t + ")", () -> x.hold(h, t), () -> m.hold(h, t));
                ticketsSeen = m.tickets.size();
            }
            default -> {
                int ticket = draw(ticketsSeen + 2) - 1;
                boolean emits = chance(60);
                same("release(" + ticket + "," + emits + "," + k + ")", () -> x.release(ticket, emits, k),
                    () -> m.release(ticket, emits, k));
            }
        }
    }

    // ---- looks

    private void lookAtStream(int s) {
        same("watermark(" + s + ")", () -> x.watermark(s), () -> m.watermark(s));
        same("isIdle(" + s + ")", () -> x.isIdle(s) ? 1 : 0, () -> m.isIdle(s) ? 1 : 0);
        int side = draw(20) == 0 ? draw(2) * 3 - 1 : draw(2);
        same("kept(" + s + "," + side + ")", () -> x.kept(s, side), () -> m.kept(s, side));
    }

    private void lookAtPart(int s, int p) {
        same("promise(" + s + "," + p + ")", () -> x.promise(s, p), () -> m.promise(s, p));
        same("part(" + s + "," + p + ")", () -> x.part(s, p), () -> m.part(s, p));
    }

    private void lookAtOut(int i, int what) {
        same("out(" + i + "," + what + ")", () -> x.out(i, what), () -> m.out(i, what));
    }

    private void lookAtLate(int i, int what) {
        same("late(" + i + "," + what + ")", () -> x.late(i, what), () -> m.late(i, what));
    }

    private void lookAtTold(int what) {
        same("told(" + what + ")", () -> x.told(what), () -> m.told(what));
    }

    private void lookAtLetter(int i) {
        same("letter(" + i + ")", () -> x.letter(i), () -> m.letter(i));
    }

    private void print() {
        same("print()", () -> x.print(), () -> m.print());
    }

    private void lookAnywhere() {
        int s = stream();
        switch (draw(8)) {
            case 0 -> lookAtStream(s);
            case 1 -> lookAtPart(s, partOf(s));
            case 2 -> lookAtOut(m.outs.size() - draw(6), draw(6) - 1);
            case 3 -> lookAtLate(m.lates.size() - draw(4), draw(6) - 1);
            case 4 -> print();
            case 5 -> lookAtLetter(draw(m.written.length() + 3) - 1);
            default -> lookAtTold(draw(11) - 1);
        }
    }

    /** All streams, parts and counts, then what is left of the calls for rows that were noted. */
    private void lookEverywhere() {
        for (int what = 0; what <= 8; what++) {
            lookAtTold(what);
        }
        for (Model.Node n : m.streams) {
            lookAtStream(n.number);
            for (int p = 0; p < n.parts.size(); p++) {
                lookAtPart(n.number, p);
            }
        }
        print();
        for (int i = 0; i < 20; i++) {
            lookAtLetter(draw(m.written.length() + 2) - 1);
        }
        int rows = Math.max(1, m.outs.size() + m.lates.size());
        while (callsLeft() > 0) {
            int row = draw(rows + 1);
            if (row < m.outs.size()) {
                lookAtOut(row, draw(4));
            } else {
                lookAtLate(row - m.outs.size(), draw(4));
            }
        }
    }

    private void run(int kind) {
        x = new WatermarkJoin();
        m = new Model();
        if (chance(10)) {
            act(0);
            lookAnywhere();
        }
        feedAndBuild(kind == 0 ? garbled(text()) : kind == 1 ? longText() : kind == 2 ? manyText() : text());
        if (chance(70)) {
            markAll();
        }
        int base = 0;
        while (callsLeft() > CALLS_TO_LOOK) {
            int before = log.size();
            act(base);
            if (chance(20)) {
                base += draw(4);
            }
            if (chance(40) || log.size() == before) {
                lookAnywhere();
            }
            if (chance(1) && chance(40)) {
                feedAndBuild(chance(50) ? garbled(text()) : text());
            }
        }
        lookEverywhere();
    }

    private static void atLeast(String what, int least, int seen) {
        System.out.println(seen + " " + what);
        Check.due("enough was seen of " + what, true, seen >= least);
    }

    public static void main(String[] args) {
        int runs = args.length > 0 ? Integer.parseInt(args[0]) : 4000;
        int outs = 0;
        int lates = 0;
        int lost = 0;
        for (int i = 0; i < runs && Check.wrongSoFar() == 0; i++) {
            ModelTest test = new ModelTest(i);
            test.run(i % 8);
            outs += test.m.outs.size();
            lates += test.m.lates.size();
            lost += test.m.lost;
        }
        atLeast("rows out", 10 * runs, outs);
        atLeast("rows late", 3 * runs, lates);
        atLeast("rows and weights lost", runs, lost);
        Check.finish();
    }
}
