/** Streams of rows with times, joined to a graph that a text tells; watermarks go through all of it. */
public final class WatermarkJoin {
    public static final int BAD = -1, GONE = -2, STOPPED = -3, FULL = -4, PAST = -5;
    public static final long START = -9000000000000000000L, END = 9000000000000000000L;

    private static final int TAPE_BYTES = 600;
    // Twelve lines of at most 57 bytes each.
    private static final int PAGE_BYTES = 800;
    private static final int NOTED_OUT = 300;
    private static final int NOTED_LATE = 200;
    private static final int MOST_STATEMENTS = 20;
    private static final int MOST_STREAMS = 12;
    private static final int MOST_JOINS = 3;
    private static final int MOST_WINDOWS = 3;
    private static final int MOST_INPUTS = 4;
    private static final int MOST_PARTS = 4;
    private static final int MOST_AFTER = 1000;
    private static final int MOST_TURNS = 1000;
    private static final int MOST_SPAN_SIZE = 1000000;
    private static final int MOST_SUMS = 24;
    // A SIZE of at most four STEPs: no time lies in more spans.
    private static final int SPANS_PER_TIME = 4;
    private static final int MOST_KEPT = 6;
    private static final int MOST_TICKETS = 60;
    private static final int GROUPS = 4;
    private static final int MOST_KEY = 9;
    private static final int LETTERS = 8;
    private static final int DIGITS = 18;
    // What a long has at most.
    private static final int WRITTEN_DIGITS = 19;
    private static final long MOST_NUMBER = 999999999999999999L;
    private static final long MOST_TIME = 100000000000000000L;
    private static final long MOST_HELD = 8000000000000000000L;
    // A goal that is none: below every watermark, so that it never raises one.
    private static final long NONE = START - 1;

    // A word has at most eight letters, so that one long holds it, a byte a letter.
    private static final long SOURCE = 0x736f75726365L;
    private static final long LAG = 0x6c6167L;
    private static final long MARKS = 0x6d61726b73L;
    private static final long AFTER = 0x6166746572L;
    private static final long GROUP = 0x67726f7570L;
    private static final long UNION = 0x756e696f6eL;
    private static final long DELAY = 0x64656c6179L;
    private static final long HOLD = 0x686f6c64L;
    private static final long JOIN = 0x6a6f696eL;
    private static final long FROM = 0x66726f6dL;
    private static final long TO = 0x746fL;
    private static final long WINDOW = 0x77696e646f77L;
    private static final long SIZE = 0x73697a65L;
    private static final long STEP = 0x73746570L;
    private static final long ALIGN = 0x616c69676eL;
    private static final long WORD_START = 0x7374617274L;
    private static final long WORD_END = 0x656e64L;
    private static final long WORD_IDLE = 0x69646c65L;

    private final Bytes tape;
    private final Bytes page;
    private final Notes outs;
    private final Notes lates;
    private Graph graph;
    private int fault;

    public WatermarkJoin() {
        tape = new Bytes(TAPE_BYTES);
        page = new Bytes(PAGE_BYTES);
        outs = new Notes(NOTED_OUT);
        lates = new Notes(NOTED_LATE);
        graph = null;
        fault = 0;
    }

    public int feed(long w, int n) {
        if (n < 1 || n > 8 || n > TAPE_BYTES - tape.length) {
            return BAD;
        }
        for (int i = n - 1; i >= 0; i--) {
            tape.add((int) (w >>> (8 * i)) & 255);
        }
        return tape.length;
    }

    public int build() {
        TextReader reader = new TextReader(new Scanner(tape), new Graph(outs, lates));
        boolean isText = reader.readText();
        tape.clear();
        fault = reader.fault;
        if (!isText) {
            return -10 - reader.place;
        }
        graph = reader.graph;
        outs.clear();
        lates.clear();
        return graph.count;
    }

    public int fault() {
        return fault;
    }

    public int row(int stream, int part, long time, int key) {
        Stream source = sourceWith(stream, part);
        if (source == null || !isTime(time) || !isKey(key)) {
            return BAD;
        }
        int refusal = graph.refusalOf(source.source, part);
        if (refusal != 0) {
            return refusal;
        }
        int answer = graph.takeRow(source, part, time, key);
        graph.reckon();
        return answer;
    }

    public int mark(int stream, int part, long time) {
        Stream source = sourceWith(stream, part);
        if (source == null || !isTime(time)) {
            return BAD;
        }
        int refusal = graph.refusalOf(source.source, part);
        if (refusal != 0) {
            return refusal;
        }
        source.source.hear(part, graph.turn);
        boolean raised = source.source.raise(part, time);
        graph.reckon();
        return raised ? 1 : 0;
    }

    public int end(int stream, int part) {
        Stream source = sourceWith(stream, part);
        if (source == null) {
            return BAD;
        }
        if (source.source.states[part] == Source.ENDED) {
            return GONE;
        }
        source.source.finish(part);
        graph.reckon();
        return 1;
    }

    public int idle(int stream, int part, boolean on) {
        Stream source = sourceWith(stream, part);
        if (source == null) {
            return BAD;
        }
        int state = source.source.states[part];
        if (state == Source.ENDED) {
            return GONE;
        }
        if ((state == Source.IDLE) == on) {
            return 0;
        }
        if (on) {
            source.source.states[part] = Source.IDLE;
        } else {
            source.source.hear(part, graph.turn);
        }
        graph.reckon();
        return 1;
    }

    public int turn(int n) {
        if (graph == null || n < 1 || n > MOST_TURNS) {
            return BAD;
        }
        int fallen = graph.goOn(n);
        graph.reckon();
        return fallen;
    }

    public int hold(int stream, long time) {
        Stream holder = streamOrNull(stream);
        if (holder == null || holder.kind != HOLD || !isTime(time)) {
            return BAD;
        }
        if (graph.tickets.given >= MOST_TICKETS) {
            return FULL;
        }
        if (time <= holder.watermark) {
            return PAST;
        }
        int ticket = graph.tickets.give(stream, time);
        graph.reckon();
        return ticket;
    }

    public int release(int ticket, boolean emits, int key) {
        if (graph == null || !graph.tickets.isHeld(ticket) || !isKey(key)) {
            return BAD;
        }
        if (emits) {
            graph.emit(ticket, key);
        }
        graph.tickets.held[ticket] = false;
        graph.reckon();
        return 1;
    }

    public long watermark(int stream) throws IllegalStateException, IndexOutOfBoundsException {
        return streamOrThrow(stream).watermark;
    }

    public boolean isIdle(int stream) throws IllegalStateException, IndexOutOfBoundsException {
        return streamOrThrow(stream).idle;
    }

    public long promise(int stream, int part) throws IllegalStateException, IndexOutOfBoundsException {
        if (graph == null) {
            throw new IllegalStateException("nothing was built");
        }
        Stream source = sourceWith(stream, part);
        if (source == null) {
            throw new IndexOutOfBoundsException("no such part of a source");
        }
        return source.source.promises[part];
    }

    public int part(int stream, int part) {
        Stream source = sourceWith(stream, part);
        if (source == null) {
            return BAD;
        }
        return graph.isStopped(source.source, part) ? 3 : source.source.states[part];
    }

    public int kept(int stream, int side) throws IllegalStateException, IndexOutOfBoundsException {
        Stream asked = streamOrThrow(stream);
        if (side != 0 && side != 1) {
            throw new IndexOutOfBoundsException("no such side");
        }
        if (asked.join != null) {
            return asked.join.counts[side];
        }
        if (side == 1) {
            return 0;
        }
        if (asked.window != null) {
            return asked.window.count;
        }
        return graph.tickets.countIn(stream);
    }

    public long out(int i, int what) throws IndexOutOfBoundsException {
        if (!outs.has(i, what)) {
            throw new IndexOutOfBoundsException("no such row that is out");
        }
        return outs.get(i, what);
    }

    public long late(int i, int what) throws IndexOutOfBoundsException {
        if (!lates.has(i, what)) {
            throw new IndexOutOfBoundsException("no such row that is late");
        }
        return lates.get(i, what);
    }

    public int told(int what) {
        if (what < 0 || what > 8) {
            return BAD;
        }
        if (what == 8) {
            return tape.length;
        }
        if (graph == null) {
            return 0;
        }
        switch (what) {
            case 0:
                return graph.count;
            case 1:
                return graph.turn;
            case 2:
                return outs.count;
            case 3:
                return lates.count;
            case 4:
                return graph.lost;
            case 5:
                return graph.tickets.countAll();
            case 6:
                return graph.countIdleParts();
            default:
                return graph.countStoppedParts();
        }
    }

    public int print() {
        if (graph == null) {
            return BAD;
        }
        page.clear();
        graph.write(page);
        return page.length;
    }

    public int letter(int i) {
        int letter = page.at(i);
        return letter < 0 ? BAD : letter;
    }

    private Stream streamOrNull(int stream) {
        if (graph == null || stream < 0 || stream >= graph.count) {
            return null;
        }
        return graph.streams[stream];
    }

    private Stream streamOrThrow(int stream) {
        if (graph == null) {
            throw new IllegalStateException("nothing was built");
        }
        Stream found = streamOrNull(stream);
        if (found == null) {
            throw new IndexOutOfBoundsException("no such stream");
        }
        return found;
    }

    /** The stream, if it is a source that has this part; else null. */
    private Stream sourceWith(int stream, int part) {
        Stream found = streamOrNull(stream);
        if (found == null || found.source == null || part < 0 || part >= found.source.parts) {
            return null;
        }
        return found;
    }

    private static boolean isTime(long time) {
        return time >= -MOST_TIME && time <= MOST_TIME;
    }

    private static boolean isKey(int key) {
        return key >= 0 && key <= MOST_KEY;
    }

    /** A time and a number together, HELD; times are 8 * 10^18 and numbers 10^18 at most, so no long overflows. */
    private static long together(long time, long number) {
        if (time == START || time == END) {
            return time;
        }
        return Math.max(-MOST_HELD, Math.min(MOST_HELD, time + number));
    }

    /** Bytes in a room of a fixed size: the tape, and the page that is written. */
    private static final class Bytes {
        final byte[] bytes;
        int length;

        Bytes(int room) {
            bytes = new byte[room];
        }

        void clear() {
            length = 0;
        }

        void add(int value) {
            if (length < bytes.length) {
                bytes[length] = (byte) value;
                length++;
            }
        }

        int at(int i) {
            return i >= 0 && i < length ? bytes[i] & 255 : -1;
        }

        void addWord(long word) {
            for (int shift = 8 * (LETTERS - 1); shift >= 0; shift -= 8) {
                int letter = (int) (word >>> shift) & 255;
                if (letter != 0) {
                    add(letter);
                }
            }
        }

        void addNumber(long number) {
            if (number < 0) {
                add('-');
            }
            long rest = number < 0 ? -number : number;
            int digits = 1;
            for (long above = rest / 10; above > 0 && digits < WRITTEN_DIGITS; above /= 10) {
                digits++;
            }
            if (digits > bytes.length - length) {
                return;
            }
            for (int i = length + digits - 1; i >= length; i--) {
                bytes[i] = (byte) ('0' + rest % 10);
                rest /= 10;
            }
            length += digits;
        }

        void addTime(long time) {
            if (time == START) {
                addWord(WORD_START);
            } else if (time == END) {
                addWord(WORD_END);
            } else {
                addNumber(time);
            }
        }
    }

    /** Rows that were noted: all are counted, the first ones can be read. */
    private static final class Notes {
        final long[] values;
        final int room;
        int count;

        Notes(int room) {
            this.room = room;
            values = new long[4 * room];
        }

        void clear() {
            count = 0;
        }

        void note(int stream, long time, int key, int weight) {
            if (count < room) {
                values[4 * count] = stream;
                values[4 * count + 1] = time;
                values[4 * count + 2] = key;
                values[4 * count + 3] = weight;
            }
            count++;
        }

        boolean has(int i, int what) {
            return i >= 0 && i < count && i < room && what >= 0 && what <= 3;
        }

        long get(int i, int what) {
            return values[4 * i + what];
        }
    }

    /** The tokens of a text, one at a time. */
    private static final class Scanner {
        static final int OVER = 0, NO_TOKEN = 1, KEYWORD = 2, NAME = 3, NUMBER = 4, SIGN = 5;

        final Bytes text;
        int next;
        int kind;
        int place;
        // The word's letters, the number, or the sign.
        long value;

        Scanner(Bytes text) {
            this.text = text;
        }

        void advance() {
            while (next < text.length && isBlank(text.at(next))) {
                next++;
            }
            place = next;
            int first = text.at(next);
            if (first < 0) {
                kind = OVER;
            } else if (first >= 'a' && first <= 'z') {
                kind = scanRun('a', 'z') > LETTERS ? NO_TOKEN : isKeyword() ? KEYWORD : NAME;
            } else if (first >= '0' && first <= '9') {
                kind = scanRun('0', '9') > DIGITS ? NO_TOKEN : NUMBER;
            } else {
                kind = first == '=' || first == ';' || first == '-' ? SIGN : NO_TOKEN;
                value = first;
                next++;
            }
        }

        /** How many bytes from low to high stand here; value is garbage when they are too many for a token. */
        private int scanRun(int low, int high) {
            value = 0;
            int length = 0;
            while (next < text.length && text.at(next) >= low && text.at(next) <= high) {
                value = low == '0' ? value * 10 + (text.at(next) - low) : value << 8 | text.at(next);
                next++;
                length++;
            }
            return length;
        }

        private boolean isKeyword() {
            return value == SOURCE || value == LAG || value == MARKS || value == AFTER || value == GROUP
                || value == UNION || value == DELAY || value == HOLD || value == JOIN || value == FROM
                || value == TO || value == WINDOW || value == SIZE || value == STEP || value == ALIGN;
        }

        private static boolean isBlank(int letter) {
            return letter == 9 || letter == 10 || letter == 13 || letter == 32;
        }
    }

    /** Reads a text into a graph, up to its first fault; what returns false has set that. */
    private static final class TextReader {
        static final int UNREADABLE = 1, MISPLACED = 2, TOLD = 3, NO_INPUT = 4, NOT_AS_TOLD = 5, MANY = 6;

        final Scanner scanner;
        final Graph graph;
        int fault;
        int place;
        private int joins;
        private int windows;
        private long number;

        TextReader(Scanner scanner, Graph graph) {
            this.scanner = scanner;
            this.graph = graph;
        }

        boolean readText() {
            scanner.advance();
            for (int told = 0; told <= MOST_STATEMENTS; told++) {
                if (told > 0 && scanner.kind == Scanner.OVER) {
                    return true;
                }
                boolean isMany = told == MOST_STATEMENTS;
                if (isKeyword(ALIGN)) {
                    if (isMany) {
                        return refuse(MANY);
                    }
                    if (!readAlign()) {
                        return false;
                    }
                } else {
                    Stream stream = readBeginning(isMany);
                    if (stream == null || !readKind(stream)) {
                        return false;
                    }
                    graph.add(stream);
                }
            }
            return false;
        }

        private boolean readAlign() {
            scanner.advance();
            if (!isNumber(0, GROUPS - 1)) {
                return false;
            }
            int group = (int) number;
            if (graph.isAligned(group)) {
                return refuse(NOT_AS_TOLD);
            }
            scanner.advance();
            if (!readNumber(0, MOST_NUMBER)) {
                return false;
            }
            graph.spans[group] = number;
            return readSign(';');
        }

        /** NAME = and the kind's word, which the scanner still stands on; null at a fault. */
        private Stream readBeginning(boolean isMany) {
            long name = scanner.value;
            if (scanner.kind != Scanner.NAME) {
                refuseToken();
                return null;
            }
            if (graph.named(name) != null) {
                refuse(TOLD);
                return null;
            }
            if (isMany || graph.count >= MOST_STREAMS) {
                refuse(MANY);
                return null;
            }
            scanner.advance();
            if (!readSign('=')) {
                return null;
            }
            return new Stream(graph.count, name, scanner.value);
        }

        private boolean readKind(Stream stream) {
            if (isKeyword(SOURCE)) {
                return readSource(stream);
            }
            if (isKeyword(UNION)) {
                return readUnion(stream);
            }
            if (isKeyword(DELAY)) {
                return readDelay(stream);
            }
            if (isKeyword(HOLD)) {
                scanner.advance();
                return readInput(stream) && readSign(';');
            }
            if (isKeyword(JOIN)) {
                return joins == MOST_JOINS ? refuse(MANY) : readJoin(stream);
            }
            if (isKeyword(WINDOW)) {
                return windows == MOST_WINDOWS ? refuse(MANY) : readWindow(stream);
            }
            return refuseToken();
        }

        private boolean readSource(Stream stream) {
            scanner.advance();
            if (!readNumber(1, MOST_PARTS)) {
                return false;
            }
            int parts = (int) number;
            long lag = Source.NO_LAG;
            if (isKeyword(LAG)) {
                scanner.advance();
                if (!readNumber(0, MOST_NUMBER)) {
                    return false;
                }
                lag = number;
            } else if (!readKeyword(MARKS)) {
                return false;
            }
            int after = Source.NO_AFTER;
            if (isKeyword(AFTER)) {
                scanner.advance();
                if (!readNumber(1, MOST_AFTER)) {
                    return false;
                }
                after = (int) number;
            }
            int group = Source.NO_GROUP;
            if (isKeyword(GROUP)) {
                scanner.advance();
                if (!readNumber(0, GROUPS - 1)) {
                    return false;
                }
                group = (int) number;
            }
            stream.source = new Source(parts, lag, after, group);
            return readSign(';');
        }

        private boolean readUnion(Stream stream) {
            scanner.advance();
            for (int i = 0; i < MOST_INPUTS; i++) {
                if (i >= 2 && scanner.kind != Scanner.NAME) {
                    break;
                }
                if (!readInput(stream)) {
                    return false;
                }
            }
            return readSign(';');
        }

        private boolean readDelay(Stream stream) {
            scanner.advance();
            if (!readInput(stream) || !readNumber(0, MOST_NUMBER)) {
                return false;
            }
            stream.delay = number;
            return readSign(';');
        }

        private boolean readJoin(Stream stream) {
            joins++;
            scanner.advance();
            if (!readInput(stream) || !readInput(stream)) {
                return false;
            }
            if (!readKeyword(FROM) || !readSignedNumber(-MOST_NUMBER)) {
                return false;
            }
            long from = number;
            if (!readKeyword(TO) || !readSignedNumber(from)) {
                return false;
            }
            stream.join = new Join(stream.inputs[0], stream.inputs[1], from, number);
            return readSign(';');
        }

        private boolean readWindow(Stream stream) {
            windows++;
            scanner.advance();
            if (!readInput(stream)) {
                return false;
            }
            if (!readKeyword(SIZE) || !readNumber(1, MOST_SPAN_SIZE)) {
                return false;
            }
            long size = number;
            long leastStep = (size + SPANS_PER_TIME - 1) / SPANS_PER_TIME;
            if (!readKeyword(STEP) || !readNumber(leastStep, size)) {
                return false;
            }
            stream.window = new Window(size, number);
            return readSign(';');
        }

        private boolean readInput(Stream stream) {
            if (scanner.kind != Scanner.NAME) {
                return refuseToken();
            }
            Stream input = graph.named(scanner.value);
            if (input == null || input.taker != null) {
                return refuse(NO_INPUT);
            }
            stream.addInput(input);
            input.taker = stream;
            scanner.advance();
            return true;
        }

        /** [-] NUMBER, not below least with its sign; the fault of one below stands at the NUMBER. */
        private boolean readSignedNumber(long least) {
            boolean isNegative = isSign('-');
            if (isNegative) {
                scanner.advance();
            }
            if (!(isNegative ? isNumber(0, -least) : isNumber(least, MOST_NUMBER))) {
                return false;
            }
            if (isNegative) {
                number = -number;
            }
            scanner.advance();
            return true;
        }

        private boolean readNumber(long least, long most) {
            if (!isNumber(least, most)) {
                return false;
            }
            scanner.advance();
            return true;
        }

        private boolean isNumber(long least, long most) {
            if (scanner.kind != Scanner.NUMBER) {
                return refuseToken();
            }
            number = scanner.value;
            return (number >= least && number <= most) || refuse(NOT_AS_TOLD);
        }

        private boolean readKeyword(long word) {
            if (!isKeyword(word)) {
                return refuseToken();
            }
            scanner.advance();
            return true;
        }

        private boolean readSign(int sign) {
            if (!isSign(sign)) {
                return refuseToken();
            }
            scanner.advance();
            return true;
        }

        private boolean isKeyword(long word) {
            return scanner.kind == Scanner.KEYWORD && scanner.value == word;
        }

        private boolean isSign(int sign) {
            return scanner.kind == Scanner.SIGN && scanner.value == sign;
        }

        private boolean refuseToken() {
            return refuse(scanner.kind == Scanner.NO_TOKEN ? UNREADABLE : MISPLACED);
        }

        private boolean refuse(int what) {
            fault = what;
            place = scanner.place;
            return false;
        }
    }

    /** One stream: what the text tells of it, and how far it is. */
    private static final class Stream {
        final int number;
        final long name;
        final long kind;
        final Stream[] inputs;
        int inputCount;
        Stream taker;
        long watermark;
        boolean idle;
        // What only some kinds have: 0 or null in all others.
        long delay;
        Source source;
        Join join;
        Window window;

        Stream(int number, long name, long kind) {
            this.number = number;
            this.name = name;
            this.kind = kind;
            inputs = new Stream[MOST_INPUTS];
            watermark = START;
        }

        void addInput(Stream input) {
            if (inputCount < inputs.length) {
                inputs[inputCount] = input;
                inputCount++;
            }
        }

        long leastOfInputs() {
            long least = END;
            boolean allAtEnd = true;
            for (int i = 0; i < inputCount; i++) {
                Stream input = inputs[i];
                if (input.watermark != END) {
                    allAtEnd = false;
                    if (!input.idle) {
                        least = Math.min(least, input.watermark);
                    }
                }
            }
            return least != END || allAtEnd ? least : NONE;
        }

        void write(Bytes page) {
            page.addNumber(number);
            page.add(' ');
            page.addWord(name);
            page.add(' ');
            page.addWord(kind);
            page.add(' ');
            for (int i = 0; i < inputCount; i++) {
                page.addNumber(inputs[i].number);
                page.add(' ');
            }
            page.addTime(watermark);
            if (idle) {
                page.add(' ');
                page.addWord(WORD_IDLE);
            }
            page.add('\n');
        }
    }

    /** The parts of a source. */
    private static final class Source {
        static final int ACTIVE = 0, IDLE = 1, ENDED = 2;
        static final int NO_LAG = -1, NO_AFTER = 0, NO_GROUP = -1;

        final int parts;
        final long lag;
        final int after;
        final int group;
        final int[] states;
        final long[] promises;
        final int[] heard;
        // Whether a part falls idle in the turn that goes by; used within that call alone.
        final boolean[] falls;

        Source(int parts, long lag, int after, int group) {
            this.parts = parts;
            this.lag = lag;
            this.after = after;
            this.group = group;
            states = new int[MOST_PARTS];
            promises = new long[MOST_PARTS];
            heard = new int[MOST_PARTS];
            falls = new boolean[MOST_PARTS];
            for (int i = 0; i < MOST_PARTS; i++) {
                promises[i] = START;
            }
        }

        void hear(int part, int turn) {
            states[part] = ACTIVE;
            heard[part] = turn;
        }

        boolean raise(int part, long time) {
            if (time <= promises[part]) {
                return false;
            }
            promises[part] = time;
            return true;
        }

        void finish(int part) {
            states[part] = ENDED;
            promises[part] = END;
        }

        int countIn(int state) {
            int count = 0;
            for (int i = 0; i < parts; i++) {
                if (states[i] == state) {
                    count++;
                }
            }
            return count;
        }

        /** END, if no part is active: no active part promises that much. */
        long leastActive() {
            long least = END;
            for (int i = 0; i < parts; i++) {
                if (states[i] == ACTIVE) {
                    least = Math.min(least, promises[i]);
                }
            }
            return least;
        }

        long goal() {
            if (countIn(ACTIVE) > 0) {
                return leastActive();
            }
            return countIn(ENDED) == parts ? END : NONE;
        }

        boolean isSilent(int part, int turn) {
            return after != NO_AFTER && states[part] == ACTIVE && turn - heard[part] >= after;
        }
    }

    /** What a join keeps of its two inputs, side 0 and side 1, in the order in which it came. */
    private static final class Join {
        final Stream first;
        final Stream second;
        final long from;
        final long to;
        final int[] counts;
        final long[][] times;
        final int[][] keys;
        final int[][] weights;

        Join(Stream first, Stream second, long from, long to) {
            this.first = first;
            this.second = second;
            this.from = from;
            this.to = to;
            counts = new int[2];
            times = new long[2][MOST_KEPT];
            keys = new int[2][MOST_KEPT];
            weights = new int[2][MOST_KEPT];
        }

        /** Whether a row of this side meets the i-th one that is kept of the other side. */
        boolean meets(int side, long time, int key, int i) {
            int other = 1 - side;
            if (keys[other][i] != key) {
                return false;
            }
            long t = side == 0 ? time : times[other][i];
            long u = side == 0 ? times[other][i] : time;
            return together(t, from) <= u && u <= together(t, to);
        }

        boolean isFar(int side, long time) {
            if (side == 0) {
                return together(time, to) <= second.watermark;
            }
            return together(time, -from) <= first.watermark;
        }

        /** Answers how many rows were lost. */
        int keep(int side, long time, int key, int weight) {
            int lost = 0;
            if (counts[side] >= MOST_KEPT) {
                dropFirst(side);
                lost = 1;
            }
            put(side, counts[side], time, key, weight);
            counts[side]++;
            return lost;
        }

        private void dropFirst(int side) {
            for (int i = 1; i < counts[side]; i++) {
                put(side, i - 1, times[side][i], keys[side][i], weights[side][i]);
            }
            counts[side]--;
        }

        private void put(int side, int i, long time, int key, int weight) {
            times[side][i] = time;
            keys[side][i] = key;
            weights[side][i] = weight;
        }

        void dropFar() {
            for (int side = 0; side < 2; side++) {
                int left = 0;
                for (int i = 0; i < counts[side]; i++) {
                    if (!isFar(side, times[side][i])) {
                        put(side, left, times[side][i], keys[side][i], weights[side][i]);
                        left++;
                    }
                }
                counts[side] = left;
            }
        }
    }

    /** The open sums of a window, by their beginnings, like ones by their keys. */
    private static final class Window {
        final long size;
        final long step;
        final long[] beginnings;
        final int[] keys;
        final int[] sums;
        int count;

        Window(long size, long step) {
            this.size = size;
            this.step = step;
            beginnings = new long[MOST_SUMS];
            keys = new int[MOST_SUMS];
            sums = new int[MOST_SUMS];
        }

        /** Adds to all spans that have this time; answers in how many of them the weight was lost. */
        int add(long time, int key, int weight) {
            if (step < 1) {
                return 0;
            }
            long latest = Math.floorDiv(time, step) * step;
            int lost = 0;
            for (int back = SPANS_PER_TIME - 1; back >= 0; back--) {
                long beginning = latest - back * step;
                if (time <= beginning + size - 1 && !addTo(beginning, key, weight)) {
                    lost++;
                }
            }
            return lost;
        }

        private boolean addTo(long beginning, int key, int weight) {
            int place = 0;
            while (place < count && isAhead(place, beginning, key)) {
                place++;
            }
            if (place < count && beginnings[place] == beginning && keys[place] == key) {
                sums[place] += weight;
                return true;
            }
            if (count >= MOST_SUMS) {
                return false;
            }
            for (int i = count; i > place; i--) {
                put(i, beginnings[i - 1], keys[i - 1], sums[i - 1]);
            }
            put(place, beginning, key, weight);
            count++;
            return true;
        }

        private boolean isAhead(int i, long beginning, int key) {
            return beginnings[i] < beginning || (beginnings[i] == beginning && keys[i] < key);
        }

        private void put(int i, long beginning, int key, int sum) {
            beginnings[i] = beginning;
            keys[i] = key;
            sums[i] = sum;
        }

        long lastTime(int i) {
            return together(beginnings[i], size - 1);
        }

        void dropFirst() {
            for (int i = 1; i < count; i++) {
                put(i - 1, beginnings[i], keys[i], sums[i]);
            }
            if (count > 0) {
                count--;
            }
        }
    }

    /** The times that are held, by their tickets. */
    private static final class Tickets {
        final int[] holders;
        final long[] times;
        final boolean[] held;
        int given;

        Tickets() {
            holders = new int[MOST_TICKETS];
            times = new long[MOST_TICKETS];
            held = new boolean[MOST_TICKETS];
        }

        int give(int holder, long time) {
            if (given >= MOST_TICKETS) {
                return FULL;
            }
            holders[given] = holder;
            times[given] = time;
            held[given] = true;
            given++;
            return given - 1;
        }

        boolean isHeld(int ticket) {
            return ticket >= 0 && ticket < given && held[ticket];
        }

        int countAll() {
            int count = 0;
            for (int i = 0; i < given; i++) {
                if (held[i]) {
                    count++;
                }
            }
            return count;
        }

        int countIn(int holder) {
            int count = 0;
            for (int i = 0; i < given; i++) {
                if (held[i] && holders[i] == holder) {
                    count++;
                }
            }
            return count;
        }

        /** END, if none is held there. */
        long leastIn(int holder) {
            long least = END;
            for (int i = 0; i < given; i++) {
                if (held[i] && holders[i] == holder) {
                    least = Math.min(least, times[i]);
                }
            }
            return least;
        }
    }

    /** All streams of a text: rows are passed on in it, and watermarks reckoned. */
    private static final class Graph {
        static final long NOT_ALIGNED = -1;

        final Notes outs;
        final Notes lates;
        final Stream[] streams;
        final long[] spans;
        final Tickets tickets;
        int count;
        int turn;
        int lost;

        Graph(Notes outs, Notes lates) {
            this.outs = outs;
            this.lates = lates;
            streams = new Stream[MOST_STREAMS];
            spans = new long[GROUPS];
            for (int i = 0; i < GROUPS; i++) {
                spans[i] = NOT_ALIGNED;
            }
            tickets = new Tickets();
        }

        void add(Stream stream) {
            if (count < streams.length) {
                streams[count] = stream;
                count++;
            }
        }

        Stream named(long name) {
            for (int i = 0; i < count; i++) {
                if (streams[i].name == name) {
                    return streams[i];
                }
            }
            return null;
        }

        boolean isAligned(int group) {
            return group >= 0 && group < spans.length && spans[group] != NOT_ALIGNED;
        }

        boolean isStopped(Source source, int part) {
            if (source.states[part] != Source.ACTIVE || !isAligned(source.group)) {
                return false;
            }
            long least = END;
            for (int i = 0; i < count; i++) {
                Source other = streams[i].source;
                if (other != null && other.group == source.group) {
                    least = Math.min(least, other.leastActive());
                }
            }
            return source.promises[part] > together(least, spans[source.group]);
        }

        /** GONE, STOPPED, or 0 if the part may go on. */
        int refusalOf(Source source, int part) {
            if (source.states[part] == Source.ENDED) {
                return GONE;
            }
            return isStopped(source, part) ? STOPPED : 0;
        }

        int countIdleParts() {
            int idle = 0;
            for (int i = 0; i < count; i++) {
                if (streams[i].source != null) {
                    idle += streams[i].source.countIn(Source.IDLE);
                }
            }
            return idle;
        }

        int countStoppedParts() {
            int stopped = 0;
            for (int i = 0; i < count; i++) {
                Source source = streams[i].source;
                for (int part = 0; source != null && part < source.parts; part++) {
                    if (isStopped(source, part)) {
                        stopped++;
                    }
                }
            }
            return stopped;
        }

        int takeRow(Stream stream, int part, long time, int key) {
            Source source = stream.source;
            source.hear(part, turn);
            if (time <= source.promises[part] || time <= stream.watermark) {
                lates.note(stream.number, time, key, 1);
                return 0;
            }
            passOn(stream, time, key, 1, 0);
            if (source.lag != Source.NO_LAG) {
                source.raise(part, together(time, -source.lag - 1));
            }
            return 1;
        }

        /** Turns go by; answers how many parts fell idle. */
        int goOn(int turns) {
            turn += turns;
            // All are found first: a part that falls idle may free others that were stopped until now.
            for (int i = 0; i < count; i++) {
                Source source = streams[i].source;
                for (int part = 0; source != null && part < source.parts; part++) {
                    source.falls[part] = source.isSilent(part, turn) && !isStopped(source, part);
                }
            }
            int fallen = 0;
            for (int i = 0; i < count; i++) {
                Source source = streams[i].source;
                for (int part = 0; source != null && part < source.parts; part++) {
                    if (source.falls[part]) {
                        source.states[part] = Source.IDLE;
                        fallen++;
                    }
                }
            }
            return fallen;
        }

        void emit(int ticket, int key) {
            passOn(streams[tickets.holders[ticket]], tickets.times[ticket], key, 1, 0);
        }

        /** Each stream is taken by a later one, so that the depth stays below the number of streams. */
        private void passOn(Stream from, long time, int key, int weight, int depth) {
            Stream taker = from.taker;
            if (taker == null) {
                outs.note(from.number, time, key, weight);
                return;
            }
            if (depth >= MOST_STREAMS) {
                return;
            }
            long there = together(time, taker.delay);
            if (there <= taker.watermark) {
                lates.note(taker.number, there, key, weight);
            } else if (taker.window != null) {
                lost += taker.window.add(there, key, weight);
            } else if (taker.join != null) {
                comeToJoin(taker, from == taker.inputs[0] ? 0 : 1, there, key, weight, depth);
            } else {
                passOn(taker, there, key, weight, depth + 1);
            }
        }

        private void comeToJoin(Stream stream, int side, long time, int key, int weight, int depth) {
            Join join = stream.join;
            int other = 1 - side;
            for (int i = 0; i < join.counts[other]; i++) {
                if (join.meets(side, time, key, i)) {
                    long later = Math.max(time, join.times[other][i]);
                    passOn(stream, later, key, weight * join.weights[other][i], depth + 1);
                }
            }
            if (!join.isFar(side, time)) {
                lost += join.keep(side, time, key, weight);
            }
        }

        void reckon() {
            for (int i = 0; i < count; i++) {
                Stream stream = streams[i];
                long goal = goalOf(stream);
                stream.idle = goal == NONE;
                if (goal > stream.watermark) {
                    stream.watermark = goal;
                }
                if (stream.window != null) {
                    closeSums(stream);
                }
                if (stream.join != null) {
                    stream.join.dropFar();
                }
            }
        }

        private long goalOf(Stream stream) {
            if (stream.source != null) {
                return stream.source.goal();
            }
            if (stream.kind == UNION || stream.kind == JOIN) {
                return stream.leastOfInputs();
            }
            Stream input = stream.inputs[0];
            if (stream.kind == HOLD && tickets.countIn(stream.number) > 0) {
                long bound = input.idle ? stream.watermark : input.watermark;
                return Math.min(bound, tickets.leastIn(stream.number) - 1);
            }
            return input.idle ? NONE : together(input.watermark, stream.delay);
        }

        private void closeSums(Stream stream) {
            Window window = stream.window;
            for (int open = window.count; open > 0 && window.lastTime(0) <= stream.watermark; open--) {
                long last = window.lastTime(0);
                int key = window.keys[0];
                int sum = window.sums[0];
                window.dropFirst();
                passOn(stream, last, key, sum, 0);
            }
        }

        void write(Bytes page) {
            for (int i = 0; i < count; i++) {
                streams[i].write(page);
            }
        }
    }
}
