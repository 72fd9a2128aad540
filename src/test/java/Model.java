import java.math.BigInteger;
import java.util.ArrayList;
import java.util.HashMap;
import java.util.LinkedHashMap;
import java.util.List;
import java.util.Map;
import java.util.TreeMap;
import java.util.regex.Matcher;
import java.util.regex.Pattern;

/** The document once more, written for plainness with the whole library: what ModelTest compares the class with. */
final class Model {
    static final BigInteger LIMIT = BigInteger.valueOf(8).multiply(BigInteger.TEN.pow(18));
    static final long START = -9_000_000_000_000_000_000L;
    static final long END = 9_000_000_000_000_000_000L;
    static final List<String> KEYWORDS = List.of("source", "lag", "marks", "after", "group", "union", "delay",
        "hold", "join", "from", "to", "window", "size", "step", "align");

    static final class Fault extends Exception {
        private static final long serialVersionUID = 1;
        final int place;
        final int number;

        Fault(int place, int number) {
            this.place = place;
            this.number = number;
        }
    }

    record Token(int place, String text) {
        boolean isNumber() {
            return text.matches("[0-9]{1,18}");
        }

        boolean isName() {
            return text.matches("[a-z]{1,8}") && !KEYWORDS.contains(text);
        }

        boolean isToken() {
            return text.matches("[a-z]{1,8}|[0-9]{1,18}|[=;-]|");
        }
    }

    record Row(long time, int key, int weight) {
    }

    record Noted(int stream, Row row) {
    }

    record Span(long beginning, int key) implements Comparable<Span> {
        public int compareTo(Span o) {
            return beginning != o.beginning ? Long.compare(beginning, o.beginning) : Integer.compare(key, o.key);
        }
    }

    static final class Part {
        String state = "active";
        long promise = START;
        int heard = 0;
    }

    static final class Node {
        int number;
        String name;
        String kind;
        List<Node> inputs = new ArrayList<>();
        Node taker;
        long watermark = START;
        boolean idle;
        List<Part> parts = new ArrayList<>();
        Long lag;
        Integer after;
        Integer group;
        long delay;
        long from;
        long to;
        long size;
        long step;
        List<List<Row>> kept = List.of(new ArrayList<>(), new ArrayList<>());
        TreeMap<Span, Integer> open = new TreeMap<>();
    }

    record Ticket(Node hold, long time) {
    }

    StringBuilder tape = new StringBuilder();
    int fault = 0;
    String written = "";
    boolean built = false;
    Map<String, Node> nodes = new LinkedHashMap<>();
    List<Node> streams = new ArrayList<>();
    Map<Integer, Long> aligned = new HashMap<>();
    List<Noted> outs = new ArrayList<>();
    List<Noted> lates = new ArrayList<>();
    int lost = 0;
    int turn = 0;
    List<Ticket> tickets = new ArrayList<>();
    List<Integer> heldTickets = new ArrayList<>();

    // ---- texts

    private final class Parser {
        final List<Token> tokens = new ArrayList<>();
        final Map<String, Node> told = new LinkedHashMap<>();
        final Map<Integer, Long> spans = new HashMap<>();
        int at = 0;

        Parser(String text) {
            Matcher m = Pattern.compile("[\t\n\r ]+|[a-z]+|[0-9]+|.", Pattern.DOTALL).matcher(text);
            while (m.find()) {
                if (!m.group().matches("[\t\n\r ]+")) {
                    tokens.add(new Token(m.start(), m.group()));
                }
            }
            tokens.add(new Token(text.length(), ""));
        }

        Token peek() throws Fault {
            Token t = tokens.get(at);
            if (!t.isToken()) {
                throw new Fault(t.place, 1);
            }
            return t;
        }

        Token take(boolean canCome) throws Fault {
            Token t = peek();
            if (!canCome) {
                throw new Fault(t.place, 2);
            }
            at++;
            return t;
        }

        boolean has(String word) throws Fault {
            return peek().text.equals(word);
        }

        void word(String word) throws Fault {
            take(has(word));
        }

        long number(long low, long high) throws Fault {
            Token t = take(peek().isNumber());
            long value = Long.parseLong(t.text);
            if (value < low || value > high) {
                throw new Fault(t.place, 5);
            }
            return value;
        }

        void input(Node node) throws Fault {
            Token t = take(peek().isName());
            Node input = told.get(t.text);
            if (input == null || input.taker != null) {
                throw new Fault(t.place, 4);
            }
            input.taker = node;
            node.inputs.add(input);
        }

        void text() throws Fault {
            int statements = 0;
            do {
                Token t = peek();
                take(t.isName() || has("align"));
                if (told.containsKey(t.text)) {
                    throw new Fault(t.place, 3);
                }
                if (++statements == 21 || t.isName() && told.size() == 12) {
                    throw new Fault(t.place, 6);
                }
                if (t.isName()) {
                    stream(t.text);
                } else {
                    align();
                }
                word(";");
            } while (peek().text.length() > 0);
        }

        void align() throws Fault {
            Token t = peek();
            int group = (int) number(0, 3);
            if (spans.containsKey(group)) {
                throw new Fault(t.place, 5);
            }
            spans.put(group, number(0, Long.MAX_VALUE));
        }

        void stream(String name) throws Fault {
            word("=");
            Token t = take(List.of("source", "union", "delay", "hold", "join", "window").contains(peek().text));
            long like = told.values().stream().filter(n -> n.kind.equals(t.text)).count();
            if (like == 3 && (t.text.equals("join") || t.text.equals("window"))) {
                throw new Fault(t.place, 6);
            }
            Node node = new Node();
            node.name = name;
            node.kind = t.text;
            node.number = told.size();
            switch (t.text) {
                case "source" -> source(node);
                case "union" -> {
                    input(node);
                    input(node);
                    while (node.inputs.size() < 4 && peek().isName()) {
                        input(node);
                    }
                }
                case "delay" -> {
                    input(node);
                    node.delay = number(0, Long.MAX_VALUE);
                }
                case "hold" -> input(node);
                case "join" -> join(node);
                default -> window(node);
            }
            told.put(name, node);
        }

        void source(Node node) throws Fault {
            long parts = number(1, 4);
            for (int i = 0; i < parts; i++) {
                node.parts.add(new Part());
            }
            if (has("lag")) {
                word("lag");
                node.lag = number(0, Long.MAX_VALUE);
            } else {
                word("marks");
            }
            if (has("after")) {
                word("after");
                node.after = (int) number(1, 1000);
            }
            if (has("group")) {
                word("group");
                node.group = (int) number(0, 3);
            }
        }

        long sign() throws Fault {
            if (has("-")) {
                word("-");
                return -1;
            }
            return 1;
        }

        void join(Node node) throws Fault {
            input(node);
            input(node);
            word("from");
            node.from = sign() * number(0, Long.MAX_VALUE);
            word("to");
            long sign = sign();
            int place = peek().place;
            node.to = sign * number(0, Long.MAX_VALUE);
            if (node.to < node.from) {
                throw new Fault(place, 5);
            }
        }

        void window(Node node) throws Fault {
            input(node);
            word("size");
            node.size = number(1, 1000000);
            word("step");
            int place = peek().place;
            node.step = number(1, 1000000);
            if (node.step > node.size || node.size > 4 * node.step) {
                throw new Fault(place, 5);
            }
        }
    }

    // ---- times and rows

    static long together(long time, long number) {
        if (time == START || time == END) {
            return time;
        }
        return BigInteger.valueOf(time).add(BigInteger.valueOf(number)).min(LIMIT).max(LIMIT.negate()).longValueExact();
    }

    boolean isStopped(Node node, Part part) {
        if (!part.state.equals("active") || node.group == null || !aligned.containsKey(node.group)) {
            return false;
        }
        long least = streams.stream().filter(n -> node.group.equals(n.group)).flatMap(n -> n.parts.stream())
            .filter(p -> p.state.equals("active")).mapToLong(p -> p.promise).min().getAsLong();
        return part.promise > together(least, aligned.get(node.group));
    }

    void passOn(Node from, Row row) {
        Node to = from.taker;
        if (to == null) {
            outs.add(new Noted(from.number, row));
            return;
        }
        if (to.kind.equals("delay")) {
            row = new Row(together(row.time, to.delay), row.key, row.weight);
        }
        if (row.time <= to.watermark) {
            lates.add(new Noted(to.number, row));
        } else if (to.kind.equals("window")) {
            comeToWindow(to, row);
        } else if (to.kind.equals("join")) {
            comeToJoin(to, to.inputs.indexOf(from), row);
        } else {
            passOn(to, row);
        }
    }

    void comeToWindow(Node node, Row row) {
        // Every multiple of STEP from a little ahead of TIME less SIZE on, by their beginnings.
        long first = Math.floorDiv(row.time - node.size, node.step) * node.step;
        for (long b = first; b <= row.time; b += node.step) {
            if (row.time - b >= node.size) {
                continue;
            }
            Span span = new Span(b, row.key);
            if (!node.open.containsKey(span) && node.open.size() == 24) {
                lost++;
            } else {
                node.open.merge(span, row.weight, Integer::sum);
            }
        }
    }

    boolean isFar(Node node, int side, Row row) {
        return side == 0 ? together(row.time, node.to) <= node.inputs.get(1).watermark
            : together(row.time, -node.from) <= node.inputs.get(0).watermark;
    }

    void comeToJoin(Node node, int side, Row row) {
        for (Row other : node.kept.get(1 - side)) {
            long t = side == 0 ? row.time : other.time;
            long u = side == 1 ? row.time : other.time;
            if (row.key == other.key && together(t, node.from) <= u && u <= together(t, node.to)) {
                passOn(node, new Row(Math.max(t, u), row.key, row.weight * other.weight));
            }
        }
        if (!isFar(node, side, row)) {
            List<Row> mine = node.kept.get(side);
            mine.add(row);
            if (mine.size() > 6) {
                mine.remove(0);
                lost++;
            }
        }
    }

    // ---- watermarks

    Long goal(Node n) {
        switch (n.kind) {
            case "source": {
                Long least = null;
                boolean allEnded = true;
                for (Part p : n.parts) {
                    if (p.state.equals("active") && (least == null || p.promise < least)) {
                        least = p.promise;
                    }
                    allEnded &= p.state.equals("ended");
                }
                return least != null ? least : allEnded ? (Long) END : null;
            }
            case "union":
            case "join": {
                Long least = null;
                boolean allEnd = true;
                for (Node i : n.inputs) {
                    if (!i.idle && i.watermark != END && (least == null || i.watermark < least)) {
                        least = i.watermark;
                    }
                    allEnd &= i.watermark == END;
                }
                return least != null ? least : allEnd ? (Long) END : null;
            }
            case "hold": {
                Long least = null;
                for (int ticket : heldTickets) {
                    if (tickets.get(ticket).hold == n && (least == null || tickets.get(ticket).time < least)) {
                        least = tickets.get(ticket).time;
                    }
                }
                Node i = n.inputs.get(0);
                if (least != null) {
                    return Math.min(least - 1, i.idle ? n.watermark : i.watermark);
                }
                return i.idle ? null : (Long) i.watermark;
            }
            default: {
                Node i = n.inputs.get(0);
                return i.idle ? null : (Long) together(i.watermark, n.kind.equals("delay") ? n.delay : 0);
            }
        }
    }

    void reckon() {
        for (Node n : streams) {
            Long goal = goal(n);
            n.idle = goal == null;
            if (goal != null && goal > n.watermark) {
                n.watermark = goal;
            }
            if (n.kind.equals("window")) {
                for (Span span : new ArrayList<>(n.open.keySet())) {
                    long last = together(span.beginning, n.size - 1);
                    if (last <= n.watermark) {
                        passOn(n, new Row(last, span.key, n.open.remove(span)));
                    }
                }
            }
            if (n.kind.equals("join")) {
                n.kept.get(0).removeIf(row -> isFar(n, 0, row));
                n.kept.get(1).removeIf(row -> isFar(n, 1, row));
            }
        }
    }

    // ---- calls

    int feed(long w, int n) {
        if (n < 1 || n > 8 || tape.length() + n > 600) {
            return -1;
        }
        String hex = String.format("%016x", w).substring(16 - 2 * n);
        for (int i = 0; i < n; i++) {
            tape.append((char) Integer.parseInt(hex.substring(2 * i, 2 * i + 2), 16));
        }
        return tape.length();
    }

    int build() {
        Parser parser = new Parser(tape.toString());
        tape.setLength(0);
        try {
            parser.text();
        } catch (Fault f) {
            fault = f.number;
            return -10 - f.place;
        }
        fault = 0;
        built = true;
        streams = new ArrayList<>(parser.told.values());
        aligned = parser.spans;
        outs.clear();
        lates.clear();
        lost = 0;
        turn = 0;
        tickets.clear();
        heldTickets.clear();
        return streams.size();
    }

    Node node(int stream) {
        return stream >= 0 && stream < streams.size() ? streams.get(stream) : null;
    }

    Part partOf(int stream, int part) {
        Node n = node(stream);
        return n != null && part >= 0 && part < n.parts.size() ? n.parts.get(part) : null;
    }

    static boolean isTime(long time) {
        return Math.abs(BigInteger.valueOf(time).doubleValue()) < 2e17
            && Math.abs(time) <= 100_000_000_000_000_000L;
    }

    int row(int stream, int part, long time, int key) {
        Part p = partOf(stream, part);
        if (p == null || !isTime(time) || key < 0 || key > 9) {
            return -1;
        }
        if (p.state.equals("ended")) {
            return -2;
        }
        Node n = node(stream);
        if (isStopped(n, p)) {
            return -3;
        }
        p.state = "active";
        p.heard = turn;
        int answer = 0;
        Row row = new Row(time, key, 1);
        if (time <= p.promise || time <= n.watermark) {
            lates.add(new Noted(stream, row));
        } else {
            passOn(n, row);
            if (n.lag != null) {
                p.promise = Math.max(p.promise, time - n.lag - 1);
            }
            answer = 1;
        }
        reckon();
        return answer;
    }

    int mark(int stream, int part, long time) {
        Part p = partOf(stream, part);
        if (p == null || !isTime(time)) {
            return -1;
        }
        if (p.state.equals("ended")) {
            return -2;
        }
        if (isStopped(node(stream), p)) {
            return -3;
        }
        p.state = "active";
        p.heard = turn;
        int answer = time > p.promise ? 1 : 0;
        p.promise = Math.max(p.promise, time);
        reckon();
        return answer;
    }

    int end(int stream, int part) {
        Part p = partOf(stream, part);
        if (p == null) {
            return -1;
        }
        if (p.state.equals("ended")) {
            return -2;
        }
        p.state = "ended";
        p.promise = END;
        reckon();
        return 1;
    }

    int idle(int stream, int part, boolean on) {
        Part p = partOf(stream, part);
        if (p == null) {
            return -1;
        }
        if (p.state.equals("ended")) {
            return -2;
        }
        if (p.state.equals(on ? "idle" : "active")) {
            reckon();
            return 0;
        }
        if (on) {
            p.state = "idle";
        } else {
            p.state = "active";
            p.heard = turn;
        }
        reckon();
        return 1;
    }

    int turn(int n) {
        if (!built || n < 1 || n > 1000) {
            return -1;
        }
        turn += n;
        List<Part> fall = new ArrayList<>();
        for (Node node : streams) {
            for (Part p : node.parts) {
                if (node.after != null && p.state.equals("active") && p.heard <= turn - node.after
                    && !isStopped(node, p)) {
                    fall.add(p);
                }
            }
        }
        fall.forEach(p -> p.state = "idle");
        reckon();
        return fall.size();
    }

    int hold(int stream, long time) {
        Node n = node(stream);
        if (n == null || !n.kind.equals("hold") || !isTime(time)) {
            return -1;
        }
        if (tickets.size() == 60) {
            return -4;
        }
        if (time <= n.watermark) {
            return -5;
        }
        tickets.add(new Ticket(n, time));
        heldTickets.add(tickets.size() - 1);
        reckon();
        return tickets.size() - 1;
    }

    int release(int ticket, boolean emits, int key) {
        if (!heldTickets.contains(ticket) || key < 0 || key > 9) {
            return -1;
        }
        Ticket t = tickets.get(ticket);
        if (emits) {
            passOn(t.hold, new Row(t.time, key, 1));
        }
        heldTickets.remove((Integer) ticket);
        reckon();
        return 1;
    }

    private Node nodeOrThrow(int stream) {
        if (!built) {
            throw new IllegalStateException();
        }
        if (node(stream) == null) {
            throw new IndexOutOfBoundsException();
        }
        return node(stream);
    }

    long watermark(int stream) {
        return nodeOrThrow(stream).watermark;
    }

    boolean isIdle(int stream) {
        return nodeOrThrow(stream).idle;
    }

    long promise(int stream, int part) {
        if (!built) {
            throw new IllegalStateException();
        }
        if (partOf(stream, part) == null) {
            throw new IndexOutOfBoundsException();
        }
        return partOf(stream, part).promise;
    }

    int part(int stream, int part) {
        Part p = partOf(stream, part);
        if (p == null) {
            return -1;
        }
        return isStopped(node(stream), p) ? 3 : List.of("active", "idle", "ended").indexOf(p.state);
    }

    int kept(int stream, int side) {
        Node n = nodeOrThrow(stream);
        if (side != 0 && side != 1) {
            throw new IndexOutOfBoundsException();
        }
        switch (n.kind) {
            case "join":
                return n.kept.get(side).size();
            case "window":
                return side == 0 ? n.open.size() : 0;
            case "hold":
                return side == 0 ? (int) heldTickets.stream().filter(t -> tickets.get(t).hold == n).count() : 0;
            default:
                return 0;
        }
    }

    private static long noted(List<Noted> notes, int most, int i, int what) {
        if (i < 0 || i >= notes.size() || i >= most || what < 0 || what > 3) {
            throw new IndexOutOfBoundsException();
        }
        Noted n = notes.get(i);
        return List.of((long) n.stream, n.row.time, (long) n.row.key, (long) n.row.weight).get(what);
    }

    long out(int i, int what) {
        return noted(outs, 300, i, what);
    }

    long late(int i, int what) {
        return noted(lates, 200, i, what);
    }

    private int countParts(int state) {
        int count = 0;
        for (Node n : streams) {
            for (int i = 0; i < n.parts.size(); i++) {
                count += part(n.number, i) == state ? 1 : 0;
            }
        }
        return count;
    }

    int told(int what) {
        switch (what) {
            case 0:
                return streams.size();
            case 1:
                return turn;
            case 2:
                return outs.size();
            case 3:
                return lates.size();
            case 4:
                return lost;
            case 5:
                return heldTickets.size();
            case 6:
                return countParts(1);
            case 7:
                return countParts(3);
            case 8:
                return tape.length();
            default:
                return -1;
        }
    }

    int print() {
        if (!built) {
            return -1;
        }
        StringBuilder all = new StringBuilder();
        for (Node n : streams) {
            List<String> words = new ArrayList<>(List.of("" + n.number, n.name, n.kind));
            n.inputs.forEach(i -> words.add("" + i.number));
            words.add(n.watermark == START ? "start" : n.watermark == END ? "end" : "" + n.watermark);
            if (n.idle) {
                words.add("idle");
            }
            all.append(String.join(" ", words)).append("\n");
        }
        written = all.toString();
        return written.length();
    }

    int letter(int i) {
        return i >= 0 && i < written.length() ? written.charAt(i) : -1;
    }
}
