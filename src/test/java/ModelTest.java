import java.util.ArrayList;
import java.util.Comparator;
import java.util.HashSet;
import java.util.List;
import java.util.Set;
import java.util.TreeSet;

/**
 * Compares long mixed runs of calls with a second program, written from the document with lists,
 * sets and recursion. The runs come from a counted generator, so they are the same each time.
 */
public final class ModelTest {
    private static final int RUNS = 3000;
    private static final int CALLS = 512;

    private static int wrong;
    private static long state;

    private SegmentShelf shelf = new SegmentShelf();
    private Model model = new Model();
    private final StringBuilder told = new StringBuilder();
    private int calls;
    private int run;
    private int words;
    private int deletes;
    private int added;

    public static void main(String[] args) {
        for (int run = 0; run < RUNS && wrong < 5; run++) {
            state = run * 7919L + 17;
            new ModelTest().compare(run);
        }
        System.out.println(wrong == 0 ? "all runs agree with the model" : wrong + " runs do not agree with the model");
        if (wrong != 0) {
            System.exit(1);
        }
    }

    private static int below(int bound) {
        state = state * 6364136223846793005L + 1442695040888963407L;
        return (int) ((state >>> 33) % bound);
    }

    private static int edge() {
        int[] edges = {Integer.MIN_VALUE, -2, -1, 0, 1, 2, 3, 4, 5, 7, 8, 9, 10, 11, 12, 13, 31, 32, 99, 100, 999, 1000,
            10999, 11000, Integer.MAX_VALUE};
        return edges[below(edges.length)];
    }

    private static int orEdge(int value) {
        return below(30) == 0 ? edge() : value;
    }

    /** False ends the run: answers behind the last call are free, and behind a difference they tell nothing. */
    private boolean agree(String call, long got, long want) {
        calls++;
        if (calls > CALLS) {
            return false;
        }
        told.append(call).append(" = ").append(got).append('\n');
        if (got == want) {
            return true;
        }
        wrong++;
        String all = told.toString();
        System.out.println("run " + run + " ends with\n" + all.substring(Math.max(0, all.length() - 1500))
            + "due is " + want);
        return false;
    }

    private void compare(int number) {
        run = number;
        words = 1 + below(8);
        deletes = below(4);
        boolean going = true;
        while (going) {
            int kind = below(20);
            if (kind < 8) {
                going = addSome();
            } else if (kind < 10) {
                going = flushOrSettle();
            } else if (kind < 13) {
                going = deleteSome();
            } else if (kind < 17) {
                going = searchSome();
            } else if (kind < 18) {
                going = watchSome();
            } else {
                going = lookAround();
            }
        }
    }

    private int someNumber() {
        return orEdge(Math.max(0, added - 1 - below(36)));
    }

    private boolean addSome() {
        int length = below(3) == 0 ? below(14) : below(4);
        for (int i = 0; i < length; i++) {
            int w = orEdge(below(words));
            if (!agree("word(" + w + ")", shelf.word(w), model.word(w))) {
                return false;
            }
        }
        int price = orEdge(below(2) == 0 ? below(100) : below(5) * 10);
        int due = model.add(price);
        added = Math.max(added, due + 1);
        return agree("add(" + price + ")", shelf.add(price), due);
    }

    private boolean flushOrSettle() {
        if (below(12) == 0) {
            return agree("settle()", shelf.settle(), model.settle());
        }
        return agree("flush()", shelf.flush(), model.flush());
    }

    private boolean deleteSome() {
        for (int i = 0; i < deletes; i++) {
            int number = someNumber();
            if (!agree("delete(" + number + ")", shelf.delete(number) ? 1 : 0, model.delete(number) ? 1 : 0)) {
                return false;
            }
        }
        return true;
    }

    private void appendSpans(List<Integer> tokens, int depth) {
        if (depth == 0 || below(2) == 0) {
            tokens.add(below(words));
            return;
        }
        tokens.add(11 + below(2));
        appendSpans(tokens, depth - 1);
        appendSpans(tokens, depth - 1);
    }

    private void appendExpression(List<Integer> tokens, int depth) {
        int kind = below(8);
        if (kind == 0) {
            int low = below(100);
            tokens.add(1000 + 100 * low + (below(4) == 0 ? below(100) : low + below(100 - low)));
        } else if (depth == 0 || kind < 4) {
            appendSpans(tokens, Math.min(3, depth));
        } else {
            tokens.add(8 + below(3));
            appendExpression(tokens, depth - 1);
            appendExpression(tokens, depth - 1);
        }
    }

    private boolean appendQuery() {
        List<Integer> tokens = new ArrayList<>();
        if (below(12) == 0) {
            for (int i = below(14); i > 0; i--) {
                tokens.add(below(2) == 0 ? below(13) : edge());
            }
        } else {
            appendExpression(tokens, below(4));
        }
        for (int t : tokens) {
            if (!agree("token(" + t + ")", shelf.token(t), model.token(t))) {
                return false;
            }
        }
        return true;
    }

    private boolean searchSome() {
        int limit = orEdge(below(11));
        if (below(4) == 0) {
            int number = someNumber();
            if (!agree("like(" + number + ", " + limit + ")", shelf.like(number, limit), model.like(number, limit))) {
                return false;
            }
        } else {
            boolean byPrice = below(2) == 0;
            if (!appendQuery()) {
                return false;
            }
            if (!agree("search(" + limit + ", " + byPrice + ")", shelf.search(limit, byPrice),
                model.search(limit, byPrice))) {
                return false;
            }
        }
        int shown = below(4) == 0 ? 11 : 2;
        for (int k = 0; k < shown; k++) {
            if (!agree("hit(" + k + ", 0)", shelf.hit(k, 0), model.hit(k, 0))
                || !agree("hit(" + k + ", 1)", shelf.hit(k, 1), model.hit(k, 1))) {
                return false;
            }
        }
        int k = orEdge(below(10));
        return agree("share(" + k + ")", shelf.share(k), model.share(k));
    }

    private boolean watchSome() {
        if (below(3) > 0) {
            if (below(6) > 0 && !appendQuery()) {
                return false;
            }
            int w = orEdge(below(4));
            return agree("watch(" + w + ")", shelf.watch(w), model.watch(w));
        }
        int w = orEdge(below(4));
        for (int i = below(12); i > 0; i--) {
            if (!agree("next(" + w + ")", shelf.next(w), model.next(w))) {
                return false;
            }
        }
        return true;
    }

    private boolean lookAround() {
        int a = orEdge(below(5));
        int b = orEdge(below(4));
        int number = someNumber();
        int i = orEdge(below(12));
        int k = orEdge(below(11));
        return agree("held(" + a + ")", shelf.held(a), model.held(a))
            && agree("segment(" + a + ", " + b + ")", shelf.segment(a, b), model.segment(a, b))
            && agree("about(" + number + ", " + b + ")", shelf.about(number, b), model.about(number, b))
            && agree("at(" + number + ", " + i + ")", shelf.at(number, i), model.at(number, i))
            && agree("hit(" + k + ", " + b + ")", shelf.hit(k, b), model.hit(k, b))
            && agree("next(" + b + ")", shelf.next(b), model.next(b));
    }

    private static final class Doc {
        int number;
        int price;
        boolean deleted;
        List<Integer> text;
        int score;
    }

    private static final class Segment {
        int level;
        List<Doc> docs = new ArrayList<>();
    }

    private static final class Watch {
        List<Integer> query = new ArrayList<>();
        List<Integer> news = new ArrayList<>();
    }

    private record Pair(int from, int to) {
    }

    private static final class Model {
        private List<Doc> buffer = new ArrayList<>();
        private final List<Segment> segments = new ArrayList<>();
        private List<Integer> text = new ArrayList<>();
        private List<Integer> query = new ArrayList<>();
        private final List<Watch> watches = List.of(new Watch(), new Watch(), new Watch(), new Watch());
        private int nextNumber;
        private List<int[]> kept = new ArrayList<>();
        private int[] shares = new int[10];
        private int place;

        int word(int w) {
            if (w < 0 || w > 7 || text.size() == 12) {
                return -1;
            }
            text.add(w);
            return text.size();
        }

        int add(int price) {
            if (price < 0 || price > 99) {
                return -1;
            }
            if (held().size() == 32) {
                return -2;
            }
            Doc doc = new Doc();
            doc.number = nextNumber++;
            doc.price = price;
            doc.text = text;
            text = new ArrayList<>();
            buffer.add(doc);
            if (buffer.size() == 4) {
                flush();
            }
            return doc.number;
        }

        int flush() {
            if (buffer.isEmpty()) {
                return segments.size();
            }
            Segment fresh = new Segment();
            fresh.docs = buffer;
            buffer = new ArrayList<>();
            segments.add(fresh);
            for (Watch watch : watches) {
                for (Doc doc : fresh.docs) {
                    if (!watch.query.isEmpty() && matches(watch.query, doc)) {
                        watch.news.add(doc.number);
                    }
                }
                while (watch.news.size() > 8) {
                    watch.news.remove(0);
                }
            }
            while (true) {
                int n = segments.size();
                if (n < 3) {
                    break;
                }
                int level = segments.get(n - 1).level;
                if (level > 2 || segments.get(n - 2).level != level || segments.get(n - 3).level != level) {
                    break;
                }
                join(3, level + 1);
            }
            return segments.size();
        }

        private void join(int count, int level) {
            Segment joined = new Segment();
            joined.level = level;
            List<Segment> last = segments.subList(segments.size() - count, segments.size());
            for (Segment segment : last) {
                for (Doc doc : segment.docs) {
                    if (!doc.deleted) {
                        joined.docs.add(doc);
                    }
                }
            }
            last.clear();
            joined.docs.sort(Comparator.comparingInt(doc -> doc.number));
            if (!joined.docs.isEmpty()) {
                segments.add(joined);
            }
        }

        int settle() {
            flush();
            join(segments.size(), 3);
            return segments.isEmpty() ? 0 : segments.get(0).docs.size();
        }

        boolean delete(int number) {
            Doc doc = find(number);
            if (doc == null || doc.deleted) {
                return false;
            }
            if (!buffer.remove(doc)) {
                doc.deleted = true;
            }
            return true;
        }

        private List<Doc> stored() {
            List<Doc> docs = new ArrayList<>();
            segments.forEach(segment -> docs.addAll(segment.docs));
            return docs;
        }

        private List<Doc> held() {
            List<Doc> docs = stored();
            docs.addAll(buffer);
            return docs;
        }

        private Doc find(int number) {
            return held().stream().filter(doc -> doc.number == number).findFirst().orElse(null);
        }

        int held(int what) {
            return switch (what) {
                case 0 -> held().size();
                case 1 -> buffer.size();
                case 2 -> (int) held().stream().filter(doc -> doc.deleted).count();
                case 3 -> segments.size();
                default -> -1;
            };
        }

        int segment(int k, int what) {
            if (k < 0 || k >= segments.size()) {
                return -1;
            }
            Segment segment = segments.get(k);
            return switch (what) {
                case 0 -> segment.level;
                case 1 -> segment.docs.size();
                case 2 -> (int) segment.docs.stream().filter(doc -> doc.deleted).count();
                case 3 -> segment.docs.stream().mapToInt(doc -> doc.number).min().orElse(-99);
                default -> -1;
            };
        }

        int about(int number, int what) {
            Doc doc = find(number);
            if (doc == null || what < 0 || what > 2) {
                return -5;
            }
            int where = -1;
            for (int k = 0; k < segments.size(); k++) {
                where = segments.get(k).docs.contains(doc) ? k : where;
            }
            return what == 0 ? doc.price : what == 1 ? doc.text.size() : where;
        }

        int at(int number, int i) {
            Doc doc = find(number);
            return doc == null || i < 0 || i >= doc.text.size() ? -1 : doc.text.get(i);
        }

        int token(int t) {
            boolean known = t >= 0 && t <= 12 || t >= 1000 && t < 11000;
            if (!known || query.size() == 12) {
                return -1;
            }
            query.add(t);
            return query.size();
        }

        /** Goes over one part from place on; false if it is none, or no span where it must be one. */
        private boolean passes(List<Integer> tokens, boolean spanOnly) {
            if (place >= tokens.size()) {
                return false;
            }
            int t = tokens.get(place++);
            if (t < 8) {
                return true;
            }
            if (t >= 1000) {
                return !spanOnly;
            }
            if (t < 11 && spanOnly) {
                return false;
            }
            boolean inSpan = t >= 11;
            return passes(tokens, inSpan) && passes(tokens, inSpan);
        }

        private boolean isExpression(List<Integer> tokens) {
            place = 0;
            return passes(tokens, false) && place == tokens.size();
        }

        private boolean matches(List<Integer> tokens, Doc doc) {
            place = 0;
            return matchesPart(tokens, doc);
        }

        private boolean matchesPart(List<Integer> tokens, Doc doc) {
            int t = tokens.get(place);
            if (t < 8 || t == 11 || t == 12) {
                return !spans(tokens, doc, new ArrayList<>()).isEmpty();
            }
            place++;
            if (t >= 1000) {
                return doc.price >= (t - 1000) / 100 && doc.price <= (t - 1000) % 100;
            }
            boolean first = matchesPart(tokens, doc);
            boolean second = matchesPart(tokens, doc);
            return t == 8 ? first && second : t == 9 ? first || second : first && !second;
        }

        private Set<Pair> spans(List<Integer> tokens, Doc doc, List<Integer> words) {
            int t = tokens.get(place++);
            Set<Pair> pairs = new HashSet<>();
            if (t < 8) {
                words.add(t);
                for (int i = 0; i < doc.text.size(); i++) {
                    if (doc.text.get(i) == t) {
                        pairs.add(new Pair(i, i));
                    }
                }
                return pairs;
            }
            Set<Pair> first = spans(tokens, doc, words);
            Set<Pair> second = spans(tokens, doc, words);
            for (Pair a : first) {
                for (Pair b : second) {
                    boolean joins = t == 11 ? b.from == a.to + 1 : a.to < b.from && b.from <= a.to + 3;
                    if (joins) {
                        pairs.add(new Pair(a.from, b.to));
                    }
                }
            }
            return pairs;
        }

        private int score(List<Integer> tokens, Doc doc) {
            int t = tokens.get(place);
            if (t < 8 || t == 11 || t == 12) {
                List<Integer> words = new ArrayList<>();
                int n = spans(tokens, doc, words).size();
                return n == 0 ? 0 : spanScore(n, words, doc);
            }
            place++;
            if (t >= 1000) {
                return 0;
            }
            int first = score(tokens, doc);
            int second = score(tokens, doc);
            return t == 10 ? first : first + second;
        }

        private int spanScore(int n, List<Integer> words, Doc doc) {
            int count = stored().size();
            int length = stored().stream().mapToInt(other -> other.text.size()).sum();
            int r = 0;
            for (int w : words) {
                int df = (int) stored().stream().filter(other -> other.text.contains(w)).count();
                r += Integer.toBinaryString(8 * (count + 1) / (df + 1)).length();
            }
            return r * 220 * n / (100 * n + 30 + 90 * doc.text.size() * count / length);
        }

        private int keep(List<Integer> tokens, int limit, boolean byPrice, int except) {
            List<Doc> hits = new ArrayList<>();
            for (Doc doc : stored()) {
                if (!doc.deleted && doc.number != except && matches(tokens, doc)) {
                    place = 0;
                    doc.score = score(tokens, doc);
                    hits.add(doc);
                }
            }
            Comparator<Doc> order = Comparator.comparingInt(doc -> byPrice ? doc.price : -doc.score);
            hits.sort(order.thenComparingInt(doc -> doc.number));
            shares = new int[10];
            hits.forEach(doc -> shares[doc.price / 10]++);
            kept = new ArrayList<>();
            hits.stream().limit(limit).forEach(doc -> kept.add(new int[] {doc.number, doc.score}));
            return hits.size();
        }

        int search(int limit, boolean byPrice) {
            if (limit < 0 || limit > 10) {
                return -1;
            }
            List<Integer> tokens = query;
            query = new ArrayList<>();
            return isExpression(tokens) ? keep(tokens, limit, byPrice, -1) : -3;
        }

        int like(int number, int limit) {
            Doc doc = find(number);
            if (doc == null || doc.text.isEmpty() || limit < 0 || limit > 10) {
                return -1;
            }
            List<Integer> tokens = new ArrayList<>();
            for (int w : new TreeSet<>(doc.text)) {
                if (!tokens.isEmpty()) {
                    tokens.add(0, 9);
                }
                tokens.add(w);
            }
            return keep(tokens, limit, false, number);
        }

        int hit(int k, int what) {
            return k < 0 || k >= kept.size() || what < 0 || what > 1 ? -1 : kept.get(k)[what];
        }

        int share(int k) {
            return k < 0 || k > 9 ? -1 : shares[k];
        }

        int watch(int w) {
            if (w < 0 || w > 3) {
                return -1;
            }
            List<Integer> tokens = query;
            query = new ArrayList<>();
            if (!tokens.isEmpty() && !isExpression(tokens)) {
                return -3;
            }
            watches.get(w).query = tokens;
            watches.get(w).news.clear();
            return tokens.size();
        }

        int next(int w) {
            return w < 0 || w > 3 || watches.get(w).news.isEmpty() ? -1 : watches.get(w).news.remove(0);
        }
    }
}
