import java.util.function.LongSupplier;

/** What the project's tests share: a count of wrong answers, and texts that are fed and built. */
final class Check {
    static final long ILLEGAL_STATE = -111111111111111111L;
    static final long OUT_OF_BOUNDS = -222222222222222222L;
    private static final long OTHER_CLASS = 0x7777777777777777L;

    private static int wrong = 0;
    private static int asked = 0;

    private Check() {
    }

    static void due(String what, long want, long got) {
        asked++;
        if (got != want) {
            wrong++;
            System.out.println(what + " answered " + named(got) + ", due is " + named(want));
        }
    }

    static void due(String what, String want, String got) {
        asked++;
        if (!want.equals(got)) {
            wrong++;
            System.out.println(what + " answered [" + got + "], due is [" + want + "]");
        }
    }

    static void due(String what, boolean want, boolean got) {
        due(what, want ? 1 : 0, got ? 1 : 0);
    }

    private static String named(long answer) {
        return answer == ILLEGAL_STATE ? "IllegalStateException" : answer == OUT_OF_BOUNDS ? "IndexOutOfBoundsException"
            : answer == OTHER_CLASS ? "an exception of a class below the due one" : Long.toString(answer);
    }

    static void throwsState(String what, LongSupplier call) {
        due(what, ILLEGAL_STATE, answer(call));
    }

    static void throwsBounds(String what, LongSupplier call) {
        due(what, OUT_OF_BOUNDS, answer(call));
    }

    /** The answer, or a number that stands for the exception. */
    static long answer(LongSupplier call) {
        try {
            return call.getAsLong();
        } catch (IllegalStateException e) {
            return e.getClass() == IllegalStateException.class ? ILLEGAL_STATE : OTHER_CLASS;
        } catch (IndexOutOfBoundsException e) {
            // A machine's own exception is of a class below this one.
            return e.getClass() == IndexOutOfBoundsException.class ? OUT_OF_BOUNDS : OTHER_CLASS;
        }
    }

    static void feed(WatermarkJoin x, String text) {
        for (int i = 0; i < text.length(); i += 8) {
            String piece = text.substring(i, Math.min(text.length(), i + 8));
            long w = 0;
            for (int k = 0; k < piece.length(); k++) {
                w = w << 8 | piece.charAt(k) & 255;
            }
            x.feed(w, piece.length());
        }
    }

    static int build(WatermarkJoin x, String text) {
        feed(x, text);
        return x.build();
    }

    static WatermarkJoin built(String text) {
        WatermarkJoin x = new WatermarkJoin();
        int streams = build(x, text);
        if (streams < 0) {
            due("build of " + text, 0, streams);
        }
        return x;
    }

    /** Place and number of a text's first fault, as "place:number"; "none" if it has none. */
    static String faultOf(String text) {
        WatermarkJoin x = new WatermarkJoin();
        int answer = build(x, text);
        return answer >= 0 ? (x.fault() == 0 ? "none" : "built, fault " + x.fault()) : (-10 - answer) + ":" + x.fault();
    }

    static void good(String text) {
        due("fault of " + text, "none", faultOf(text));
    }

    /** An @ stands ahead of the token at which the fault is due. */
    static void bad(String marked, int fault) {
        due("fault of " + marked, marked.indexOf('@') + ":" + fault, faultOf(marked.replace("@", "")));
    }

    /** Sources of one part with marks, named a, b, c .. */
    static String sources(int n) {
        StringBuilder s = new StringBuilder();
        for (int i = 0; i < n; i++) {
            s.append((char) ('a' + i)).append("=source 1 marks;");
        }
        return s.toString();
    }

    static String page(WatermarkJoin x) {
        int bytes = x.print();
        StringBuilder page = new StringBuilder();
        for (int i = 0; i < bytes; i++) {
            page.append((char) x.letter(i));
        }
        return page.toString();
    }

    /** A row that is out, as "stream time key weight". */
    static String out(WatermarkJoin x, int i) {
        return x.out(i, 0) + " " + x.out(i, 1) + " " + x.out(i, 2) + " " + x.out(i, 3);
    }

    static String late(WatermarkJoin x, int i) {
        return x.late(i, 0) + " " + x.late(i, 1) + " " + x.late(i, 2) + " " + x.late(i, 3);
    }

    /** All rows that are out, from the i-th on, with commas between. */
    static String outs(WatermarkJoin x, int i) {
        StringBuilder all = new StringBuilder();
        for (int k = i; k < Math.min(300, x.told(2)); k++) {
            all.append(k > i ? ", " : "").append(out(x, k));
        }
        return all.toString();
    }

    /** All that can be seen but notes and the page: what a call that is refused must leave as it is. */
    static String all(WatermarkJoin x) {
        StringBuilder s = new StringBuilder();
        for (int what = 0; what <= 8; what++) {
            s.append(x.told(what)).append(' ');
        }
        for (int stream = 0; stream < x.told(0); stream++) {
            s.append("| ").append(x.watermark(stream)).append(x.isIdle(stream) ? " idle " : " ");
            s.append(x.kept(stream, 0)).append(' ').append(x.kept(stream, 1)).append(' ');
            for (int part = 0; part < 4 && x.part(stream, part) >= 0; part++) {
                s.append(x.part(stream, part)).append(':').append(x.promise(stream, part)).append(' ');
            }
        }
        return s.toString();
    }

    static int wrongSoFar() {
        return wrong;
    }

    static void finish() {
        System.out.println(asked + " answers, " + wrong + " of them not as due");
        if (wrong != 0) {
            System.exit(1);
        }
    }
}
