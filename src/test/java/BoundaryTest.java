/**
 * For each sentence of the promises that names a boundary, a test of its own: the last value inside,
 * the first one outside, and what a refused call leaves as it was.
 */
public final class BoundaryTest extends Sentences {
    private static final int LEAST = Integer.MIN_VALUE, GREATEST = Integer.MAX_VALUE;

    public static void main(String[] args) throws Exception {
        holdAll(BoundaryTest.class);
    }

    private static void nothing(SegmentShelf x) {
    }

    private static void settled(SegmentShelf x) {
        busy(x);
        x.settle();
    }

    private static void tokens(SegmentShelf x, int... tokens) {
        for (int t : tokens) {
            x.token(t);
        }
    }

    // Promise 1

    @Says("Promise 1: Nothing held, nothing found")
    private static void newShelfIsEmpty() {
        SegmentShelf x = new SegmentShelf();
        dueHeld(x, 0, 0, 0, 0);
        dueSegments(x);
        dueHits("new", x);
        dueShares("new", x, 0, 0, 0, 0, 0, 0, 0, 0, 0, 0);
        due("about(0, 0)", x.about(0, 0), NOT_KNOWN);
        due("at(0, 0)", x.at(0, 0), REFUSED);
        due("delete(0)", x.delete(0), false);
        due("search", ask(x, 10, false, range(0, 99)), 0);
        dueHits("search", x);
        due("add", x.add(0), 0);
    }

    @Says("Promise 1: the pending text and query are empty")
    private static void newShelfHasNothingPending() {
        SegmentShelf x = new SegmentShelf();
        due("search", x.search(1, false), WRONG);
        due("watch", x.watch(0), 0);
        due("add", x.add(1), 0);
        due("length", x.about(0, 1), 0);
        SegmentShelf y = new SegmentShelf();
        due("word", y.word(0), 1);
        due("token", y.token(0), 1);
    }

    @Says("Promise 1: A new object")
    private static void shelvesShareNothing() {
        leavesAll("a busy shelf beside it", BoundaryTest::nothing, x -> {
            busy(new SegmentShelf());
            return 0;
        }, 0);
    }

    // Promise 2

    @Says("Promise 2: Appends a word to the pending text: how many")
    private static void wordsAreCounted() {
        SegmentShelf x = new SegmentShelf();
        for (int i = 0; i < 12; i++) {
            due("word(" + (7 - i % 8) + ")", x.word(7 - i % 8), i + 1);
        }
        x.add(1);
        dueText(x, 0, 7, 6, 5, 4, 3, 2, 1, 0, 7, 6, 5, 4);
        due("the text is empty again", x.word(0), 1);
    }

    @Says("Promise 2: REFUSED if it is none")
    private static void noWords() {
        for (int w : new int[] {-1, 8, 12, 1000, LEAST, GREATEST}) {
            leavesAll("word(" + w + ")", Twins::busy, x -> x.word(w), REFUSED);
            leavesAll("word(" + w + ")", BoundaryTest::nothing, x -> x.word(w), REFUSED);
        }
    }

    @Says("Promise 2: or there are 12")
    private static void thirteenthWord() {
        for (int w : new int[] {0, 7, 8, -1}) {
            leavesAll("word(" + w + ") as the 13th", BoundaryTest::twelveWords, x -> x.word(w), REFUSED);
        }
        SegmentShelf x = new SegmentShelf();
        twelveWords(x);
        x.word(0);
        x.add(5);
        dueText(x, 0, 0, 1, 2, 3, 4, 5, 6, 7, 7, 6, 5, 4);
    }

    private static void twelveWords(SegmentShelf x) {
        for (int w : new int[] {0, 1, 2, 3, 4, 5, 6, 7, 7, 6, 5, 4}) {
            x.word(w);
        }
    }

    // Promise 3

    @Says("Promise 3: A new document with the pending text, which is empty then: its number.")
    private static void addTakesTheText() {
        SegmentShelf x = new SegmentShelf();
        twelveWords(x);
        x.token(5);
        due("the longest text", x.add(0), 0);
        due("no text", x.add(99), 1);
        dueText(x, 0, 0, 1, 2, 3, 4, 5, 6, 7, 7, 6, 5, 4);
        dueText(x, 1);
        due("the text is empty then", x.word(3), 1);
        due("the query stays", x.token(5), 2);
    }

    @Says("Promise 3: REFUSED if price is not 0 .. 99")
    private static void wrongPrices() {
        for (int price : new int[] {-1, 100, LEAST, GREATEST}) {
            leavesAll("add(" + price + ")", Twins::busy, x -> x.add(price), REFUSED);
        }
        SegmentShelf x = new SegmentShelf();
        due("add(0)", x.add(0), 0);
        due("add(99)", x.add(99), 1);
    }

    @Says("Promise 3: FULL if 32 are held (the text stays)")
    private static void noRoom() {
        leavesAll("add(0)", Twins::full, x -> x.add(0), FULL);
        leavesAll("add(99)", Twins::full, x -> x.add(99), FULL);
        SegmentShelf x = new SegmentShelf();
        full(x);
        dueHeld(x, 32, 3, 2, 4);
        due("add with 32", x.add(7), FULL);
        x.delete(30);
        due("add with 31", x.add(7), 32);
        dueText(x, 32, 6, 4);
        due("add with 32", x.add(7), FULL);
    }

    // Promise 4

    @Says("Promise 4: Flushes the buffer if it has any documents")
    private static void flushOfNothing() {
        leavesAll("flush()", BoundaryTest::nothing, SegmentShelf::flush, 0);
        leavesAll("flush()", x -> {
            busy(x);
            x.delete(5);
            x.delete(6);
        }, SegmentShelf::flush, 2);
        leavesAll("flush()", BoundaryTest::settled, SegmentShelf::flush, 1);
        SegmentShelf x = new SegmentShelf();
        x.add(1);
        due("flush of one", x.flush(), 1);
        dueHeld(x, 1, 0, 0, 1);
        x.add(1);
        x.add(1);
        x.add(1);
        due("flush of three", x.flush(), 2);
        dueHeld(x, 4, 0, 0, 2);
    }

    @Says("Promise 4: with merging: how many segments there are")
    private static void flushCountsAfterMerging() {
        SegmentShelf x = new SegmentShelf();
        int[] segments = {1, 2, 1, 2, 3, 2, 3, 4, 1, 2, 3, 2, 3, 4, 3, 4, 5, 2, 3, 4, 3, 4, 5, 4, 5, 6, 1, 2};
        for (int i = 0; i < segments.length; i++) {
            x.add(1);
            due("flush " + i, x.flush(), segments[i]);
            due("held(3)", x.held(3), segments[i]);
        }
    }

    // Promise 5

    @Says("Promise 5: Deletes a document: true")
    private static void deleteOfHeldOnes() {
        SegmentShelf x = new SegmentShelf();
        for (int i = 0; i < 31; i++) {
            add(x, i, i % 8);
        }
        due("the first in a segment", x.delete(0), true);
        due("the last in a segment", x.delete(27), true);
        due("the first in the buffer", x.delete(28), true);
        due("the last in the buffer", x.delete(30), true);
        dueHeld(x, 29, 1, 2, 3);
        dueText(x, 29, 5);
        due("the one between", x.delete(29), true);
        dueHeld(x, 28, 0, 2, 3);
    }

    @Says("Promise 5: false if it is not held or DELETED already")
    private static void deleteOfOthers() {
        for (int number : new int[] {-1, 7, 8, LEAST, GREATEST}) {
            leavesAll("delete(" + number + ")", Twins::busy, x -> x.delete(number) ? 1 : 0, 0);
        }
        leavesAll("delete of a DELETED one", Twins::busy, x -> x.delete(1) ? 1 : 0, 0);
        leavesAll("delete of one that was merged away", BoundaryTest::settled, x -> x.delete(1) ? 1 : 0, 0);
        leavesAll("delete of one deleted in the buffer", x -> {
            busy(x);
            x.delete(5);
        }, x -> x.delete(5) ? 1 : 0, 0);
    }

    // Promise 6

    @Says("Promise 6: Flushes, and then all segments become one of level 3")
    private static void settleMakesOneSegment() {
        SegmentShelf x = new SegmentShelf();
        observe(x, 0, range(0, 99));
        add(x, 1, 6);
        due("the buffer alone", x.settle(), 1);
        dueSegments(x, 3, 1, 0, 0);
        dueNews(x, 0, 0);
        flushSingles(x, 4);
        add(x, 2, 5);
        due("segments of levels 3, 1 and 0, and the buffer", x.settle(), 6);
        dueSegments(x, 3, 6, 0, 0);
        dueHeld(x, 6, 0, 0, 1);
        dueNews(x, 0, 1, 2, 3, 4, 5);
        dueText(x, 0, 6);
        dueText(x, 5, 5);
        leavesAll("settle() again", BoundaryTest::settled, SegmentShelf::settle, 6);
        for (int i = 6; i < 32; i++) {
            x.add(1);
        }
        due("all that can be held", x.settle(), 32);
        dueSegments(x, 3, 32, 0, 0);
    }

    @Says("Promise 6: without the documents that are DELETED")
    private static void settleDropsDeletedOnes() {
        SegmentShelf x = new SegmentShelf();
        for (int i = 0; i < 6; i++) {
            add(x, i, i);
        }
        x.delete(0);
        x.delete(3);
        x.delete(4);
        due("settle", x.settle(), 3);
        dueHeld(x, 3, 0, 0, 1);
        dueSegments(x, 3, 3, 0, 1);
        dueText(x, 1, 1);
        dueText(x, 2, 2);
        dueText(x, 5, 5);
        x.delete(5);
        due("settle of one segment of level 3", x.settle(), 2);
        dueSegments(x, 3, 2, 0, 1);
    }

    @Says("Promise 6: (none if there are no others): how many documents it has")
    private static void settleOfNothing() {
        leavesAll("settle() of nothing", BoundaryTest::nothing, SegmentShelf::settle, 0);
        SegmentShelf x = new SegmentShelf();
        for (int i = 0; i < 6; i++) {
            x.add(i);
        }
        for (int i = 0; i < 6; i++) {
            x.delete(i);
        }
        dueHeld(x, 4, 0, 4, 1);
        due("settle of DELETED ones", x.settle(), 0);
        dueHeld(x, 0, 0, 0, 0);
        dueSegments(x);
        due("a new one", x.add(1), 6);
        due("settle of one", x.settle(), 1);
    }

    // Promise 7

    @Says("Promise 7: what 0 in all, 1 in the buffer, 2 DELETED, 3 segments")
    private static void heldCounts() {
        SegmentShelf x = new SegmentShelf();
        busy(x);
        dueHeld(x, 7, 2, 1, 2);
        x.delete(6);
        dueHeld(x, 6, 1, 1, 2);
        x.delete(4);
        dueHeld(x, 6, 1, 2, 2);
        x.settle();
        dueHeld(x, 4, 0, 0, 1);
    }

    @Says("Promise 7: REFUSED for another what")
    private static void heldOfOthers() {
        for (int what : new int[] {-1, 4, LEAST, GREATEST}) {
            leavesAll("held(" + what + ")", Twins::busy, x -> x.held(what), REFUSED);
        }
        leavesAll("held(0)", Twins::busy, x -> x.held(0), 7);
        leavesAll("held(3)", Twins::busy, x -> x.held(3), 2);
    }

    // Promise 8

    @Says("Promise 8: Of segment k (from 0), what 0: its level, 1: how many documents it has, "
        + "2: how many of them are DELETED, 3: the lowest number")
    private static void segmentsAreTold() {
        SegmentShelf x = new SegmentShelf();
        busy(x);
        dueSegments(x, 0, 4, 1, 0, 0, 1, 0, 4);
        x.delete(0);
        dueSegments(x, 0, 4, 2, 0, 0, 1, 0, 4);
        x.flush();
        dueSegments(x, 1, 5, 0, 2);
    }

    @Says("Promise 8: REFUSED if there is none or what is another")
    private static void segmentsThatAreNone() {
        for (int other : new int[] {-1, 4, LEAST, GREATEST}) {
            leavesAll("segment(0, " + other + ")", Twins::busy, x -> x.segment(0, other), REFUSED);
            leavesAll("segment(" + other + ", 0)", Twins::busy, x -> x.segment(other, 0), REFUSED);
        }
        for (int what = 0; what < 4; what++) {
            int asked = what;
            leavesAll("segment(2, " + what + ")", Twins::busy, x -> x.segment(2, asked), REFUSED);
            due("segment(0, " + what + ") of a new one", new SegmentShelf().segment(0, what), REFUSED);
        }
        leavesAll("segment(1, 3)", Twins::busy, x -> x.segment(1, 3), 4);
        SegmentShelf x = new SegmentShelf();
        x.add(1);
        due("the buffer is none", x.segment(0, 1), REFUSED);
        flushSingles(x, 2);
        x.delete(0);
        x.delete(1);
        x.delete(2);
        due("the last one", x.segment(1, 2), 1);
        x.settle();
        due("none is left", x.segment(0, 0), REFUSED);
    }

    // Promise 9

    @Says("Promise 9: Of a held document, what 0: its price, 1: its length, "
        + "2: the segment it is in (-1 the buffer)")
    private static void documentsAreTold() {
        SegmentShelf x = new SegmentShelf();
        add(x, 0);
        x.settle();
        twelveWords(x);
        x.add(99);
        due("least price", x.about(0, 0), 0);
        due("least length", x.about(0, 1), 0);
        due("first segment", x.about(0, 2), 0);
        due("greatest price", x.about(1, 0), 99);
        due("greatest length", x.about(1, 1), 12);
        due("buffer", x.about(1, 2), -1);
        x.flush();
        due("second segment", x.about(1, 2), 1);
        x.delete(1);
        due("DELETED, and held", x.about(1, 2), 1);
        due("DELETED, and held", x.about(1, 0), 99);
        flushSingles(x, 7);
        due("first segment", x.about(0, 2), 0);
        dueSegments(x, 3, 1, 0, 0, 1, 2, 0, 2, 1, 3, 0, 4, 0, 1, 0, 7, 0, 1, 0, 8);
        due("last segment", x.about(8, 2), 4);
    }

    @Says("Promise 9: -5 if it is not held or what is another")
    private static void documentsThatAreNone() {
        for (int what : new int[] {-1, 3, LEAST, GREATEST}) {
            leavesAll("about(0, " + what + ")", Twins::busy, x -> x.about(0, what), NOT_KNOWN);
            leavesAll("about(5, " + what + ")", Twins::busy, x -> x.about(5, what), NOT_KNOWN);
        }
        for (int number : new int[] {-1, 7, LEAST, GREATEST}) {
            for (int what = -1; what < 4; what++) {
                int asked = what;
                leavesAll("about(" + number + ", " + what + ")", Twins::busy, x -> x.about(number, asked), NOT_KNOWN);
            }
        }
        leavesAll("about of one that was merged away", BoundaryTest::settled, x -> x.about(1, 0), NOT_KNOWN);
        leavesAll("about(6, 2)", Twins::busy, x -> x.about(6, 2), -1);
        SegmentShelf x = new SegmentShelf();
        x.add(1);
        x.delete(0);
        due("about of one deleted in the buffer", x.about(0, 2), NOT_KNOWN);
    }

    // Promise 10

    @Says("Promise 10: Word i of a held document's text; REFUSED if there is none.")
    private static void wordsOfTexts() {
        SegmentShelf x = new SegmentShelf();
        twelveWords(x);
        x.add(1);
        add(x, 1);
        add(x, 1, 6);
        due("the first word", x.at(0, 0), 0);
        due("the last word", x.at(0, 11), 4);
        due("behind a full text", x.at(0, 12), REFUSED);
        due("of an empty text", x.at(1, 0), REFUSED);
        due("of one word", x.at(2, 0), 6);
        due("behind one word", x.at(2, 1), REFUSED);
        x.settle();
        x.delete(0);
        due("of a DELETED one", x.at(0, 11), 4);
        x.settle();
        due("of one that was merged away", x.at(0, 11), REFUSED);
        due("of one that moved", x.at(2, 0), 6);
        for (int other : new int[] {-1, 12, LEAST, GREATEST}) {
            leavesAll("at(0, " + other + ")", Twins::busy, y -> y.at(0, other), REFUSED);
            leavesAll("at(" + other + ", 0)", Twins::busy, y -> y.at(other, 0), REFUSED);
        }
        leavesAll("at(7, 0)", Twins::busy, y -> y.at(7, 0), REFUSED);
        leavesAll("at(0, 2)", Twins::busy, y -> y.at(0, 2), REFUSED);
        leavesAll("at(0, 1)", Twins::busy, y -> y.at(0, 1), 1);
    }

    // Promise 11

    @Says("Promise 11: Appends a token to the pending query: how many")
    private static void tokensAreCounted() {
        SegmentShelf x = new SegmentShelf();
        int[] taken = {0, 7, AND, OR, WITHOUT, NEXT, NEAR, 1000, 10999, 1099, 10900, 6050};
        for (int i = 0; i < taken.length; i++) {
            due("token(" + taken[i] + ")", x.token(taken[i]), i + 1);
        }
        x.watch(0);
        due("the query is empty again", x.token(0), 1);
    }

    @Says("Promise 11: REFUSED if it is none")
    private static void noTokens() {
        for (int t : new int[] {-1, 13, 99, 999, 11000, LEAST, GREATEST}) {
            leavesAll("token(" + t + ")", Twins::busy, x -> x.token(t), REFUSED);
            leavesAll("token(" + t + ")", BoundaryTest::nothing, x -> x.token(t), REFUSED);
        }
    }

    @Says("Promise 11: or there are 12")
    private static void thirteenthToken() {
        for (int t : new int[] {0, NEAR, 10999, 13}) {
            leavesAll("token(" + t + ") as the 13th", BoundaryTest::twelveTokens, x -> x.token(t), REFUSED);
        }
        SegmentShelf x = new SegmentShelf();
        tokens(x, AND, 0, AND, 0, AND, 0, AND, 0, AND, 0, 0);
        due("the twelfth token", x.token(0), 12);
        due("the thirteenth token", x.token(0), REFUSED);
        due("search", x.search(1, false), WRONG);
    }

    private static void twelveTokens(SegmentShelf x) {
        busyWithoutQuery(x);
        tokens(x, OR, 0, OR, 1, OR, 2, OR, 3, OR, 4, OR, 5);
    }

    // Promise 12

    @Says("Promise 12: Takes the pending query, which is empty then: how many hits there are")
    private static void searchCountsAllHits() {
        SegmentShelf x = new SegmentShelf();
        due("on an empty shelf", ask(x, 10, false, range(0, 99)), 0);
        due("the query is empty then", x.token(1), 1);
        for (int i = 0; i < 32; i++) {
            add(x, i, 1);
        }
        due("all that can be held, limit 10", x.search(10, false), 32);
        due("the query is empty then", x.search(10, false), WRONG);
        due("limit 0", ask(x, 0, false, 1), 32);
        due("limit 1", ask(x, 1, true, 1), 32);
        due("none", ask(x, 10, true, 2), 0);
        leavesAll("a search without hits", BoundaryTest::nothing, y -> ask(y, 10, true, 2), 0);
    }

    @Says("Promise 12: the first limit (0 .. 10) are kept, by price or by score")
    private static void limits0To10() {
        SegmentShelf x = new SegmentShelf();
        for (int i = 0; i < 12; i++) {
            add(x, 50 - i, 1);
        }
        for (int limit = 0; limit <= 10; limit++) {
            due("search(" + limit + ", true)", ask(x, limit, true, 1), 12);
            due("the last that is kept", x.hit(limit - 1, 0), limit == 0 ? REFUSED : 12 - limit);
            due("the first that is not", x.hit(limit, 0), REFUSED);
            due("search(" + limit + ", false)", ask(x, limit, false, 1), 12);
            due("the last that is kept", x.hit(limit - 1, 0), limit - 1);
            due("the first that is not", x.hit(limit, 0), REFUSED);
        }
        ask(x, 10, true, 1);
        dueFound("by price", x, 11, 10, 9, 8, 7, 6, 5, 4, 3, 2);
        ask(x, 10, false, 1);
        dueFound("by score", x, 0, 1, 2, 3, 4, 5, 6, 7, 8, 9);
        ask(x, 10, true, range(41, 42));
        dueFound("fewer than the limit", x, 9, 8);
    }

    @Says("Promise 12: REFUSED, and nothing changes, if limit is not so")
    private static void wrongLimitsOfSearch() {
        for (int limit : new int[] {-1, 11, LEAST, GREATEST}) {
            leavesAll("search(" + limit + ", false)", Twins::busy, x -> x.search(limit, false), REFUSED);
            leavesAll("search(" + limit + ", true)", Twins::busy, x -> x.search(limit, true), REFUSED);
            leavesAll("search(" + limit + ", true) of no query", Twins::busyWithoutQuery, x -> x.search(limit, true),
                REFUSED);
        }
    }

    @Says("Promise 12: WRONG if it is no expression (what was kept stays)")
    private static void searchOfNoExpression() {
        int[][] wrong = {{}, {AND}, {0, 0}, {AND, 0}, {NEXT, 0, range(0, 9)}, {OR, 0, OR, 1, OR, 2, OR, 3, OR, 4, OR, 5}};
        for (int[] query : wrong) {
            for (int limit : new int[] {0, 10}) {
                leavesAs("search(" + limit + ", true)", x -> {
                    busyWithoutQuery(x);
                    tokens(x, query);
                }, x -> x.search(limit, true), WRONG, Twins::busyWithoutQuery);
            }
        }
    }

    // Promise 13

    @Says("Promise 13: The same, by score, for the query that joins all different words of a held document by OR "
        + "(in the order of the words), without this document")
    private static void likeIsASearch() {
        SegmentShelf x = new SegmentShelf();
        add(x, 90, 3, 1, 3, 3, 1);
        add(x, 10, 1, 2);
        add(x, 20, 3, 1);
        add(x, 30, 0, 2);
        add(x, 40, 1, 3, 3);
        due("like", x.like(0, 10), 2);
        int first = x.hit(0, 1), second = x.hit(1, 1);
        dueHits("like", x, 2, first, 1, second);
        due("the same by search", ask(x, 10, false, WITHOUT, OR, 1, 3, range(90, 90)), 2);
        dueHits("the same by search", x, 2, first, 1, second);
        due("like of one in the buffer", x.like(4, 10), 3);
        dueFound("like of one in the buffer", x, 0, 2, 1);
        due("like of a third one", x.like(3, 0), 1);
        x.delete(0);
        due("like of a DELETED one", x.like(0, 10), 2);
        dueFound("like of a DELETED one", x, 2, 1);
        x.delete(1);
        x.delete(2);
        due("none is left", x.like(4, 10), 0);
        dueHits("none is left", x);
        dueShares("none is left", x, 0, 0, 0, 0, 0, 0, 0, 0, 0, 0);
    }

    @Says("Promise 13: all different words of a held document")
    private static void likeOfOneToEightWords() {
        SegmentShelf x = new SegmentShelf();
        for (int w = 0; w < 8; w++) {
            add(x, w, w);
        }
        add(x, 20, 0, 1, 2, 3, 4, 5, 6, 7, 7, 7, 7, 7);
        add(x, 30, 7);
        add(x, 40, 0, 1, 2, 3, 4, 5, 6);
        x.flush();
        due("one word", x.like(9, 10), 2);
        dueFound("one word", x, 7, 8);
        due("seven words", x.like(10, 10), 8);
        due("eight words", x.like(8, 10), 10);
        // N 11, LENGTH 28: the words 0 .. 7 are in three texts each, 8 * 12 / 4 is 24, of 5 digits.
        int longOne = 7 * (5 * 220 / (130 + 90 * 7 * 11 / 28));
        int shortOne = 5 * 220 / (130 + 90 * 11 / 28);
        due("longer text", x.hit(0, 1), longOne);
        due("shorter text", x.hit(1, 1), shortOne);
        dueFound("eight words", x, 10, 0, 1, 2, 3, 4, 5, 6, 7, 9);
    }

    @Says("Promise 13: the pending query stays")
    private static void likeLeavesTheQuery() {
        SegmentShelf x = new SegmentShelf();
        busy(x);
        due("like", x.like(2, 10), 1);
        due("the query stays", x.token(0), 4);
        SegmentShelf y = new SegmentShelf();
        twelveTokens(y);
        due("like", y.like(2, 10), 1);
        due("the query stays", y.token(0), REFUSED);
        SegmentShelf z = new SegmentShelf();
        busy(z);
        z.like(4, 10);
        due("the query stays", z.search(10, false), 1);
        dueFound("the query stays", z, 0);
        due("and is taken once", z.search(10, false), WRONG);
    }

    @Says("Promise 13: REFUSED if it is not held, its text is empty, or limit is not so.")
    private static void wrongLikes() {
        for (int number : new int[] {-1, 7, LEAST, GREATEST}) {
            leavesAll("like(" + number + ", 1)", Twins::busy, x -> x.like(number, 1), REFUSED);
        }
        leavesAll("like of an empty text in a segment", Twins::busy, x -> x.like(3, 1), REFUSED);
        leavesAll("like of an empty text in the buffer", Twins::busy, x -> x.like(6, 1), REFUSED);
        for (int limit : new int[] {-1, 11, LEAST, GREATEST}) {
            leavesAll("like(0, " + limit + ")", Twins::busy, x -> x.like(0, limit), REFUSED);
        }
        leavesAll("like of one that was merged away", BoundaryTest::settled, x -> x.like(1, 1), REFUSED);
        leavesAll("like of one deleted in the buffer", x -> {
            busy(x);
            x.delete(5);
        }, x -> x.like(5, 1), REFUSED);
    }

    @Says("Promise 13: limit is not so")
    private static void limitsOfLike() {
        SegmentShelf x = new SegmentShelf();
        for (int i = 0; i < 12; i++) {
            add(x, 50 - i, 1);
        }
        due("like(0, 0)", x.like(0, 0), 11);
        dueHits("like(0, 0)", x);
        due("like(0, 1)", x.like(0, 1), 11);
        dueFound("like(0, 1)", x, 1);
        due("like(11, 10)", x.like(11, 10), 11);
        dueFound("like(11, 10)", x, 0, 1, 2, 3, 4, 5, 6, 7, 8, 9);
    }

    // Promise 14

    @Says("Promise 14: Of hit k of those that are kept, what 0: its number, 1: its score then")
    private static void hitsStayAsTheyWere() {
        SegmentShelf x = fourTexts();
        ask(x, 10, false, OR, 0, 1);
        // N 4, LENGTH 5, DF 2 of both words: 40 / 3 is 13, of 4 digits.
        int both = 2 * (880 / (130 + 144)), one = 880 / (130 + 144), alone = 880 / (130 + 72);
        dueHits("then", x, 0, both, 2, alone, 1, one);
        x.delete(0);
        x.settle();
        add(x, 1, 0, 0, 0);
        x.flush();
        dueHits("still", x, 0, both, 2, alone, 1, one);
        ask(x, 10, true, OR, 0, 1);
        due("by price there are scores too", x.hit(0, 0), 4);
        // N 4, LENGTH 6, DF(0) 2: 90 * 3 * 4 / 6 is 180.
        due("by price there are scores too", x.hit(0, 1), 4 * 220 * 3 / (330 + 180));
    }

    @Says("Promise 14: REFUSED if there is none or what is another")
    private static void hitsThatAreNone() {
        due("before a search", new SegmentShelf().hit(0, 0), REFUSED);
        for (int other : new int[] {-1, 2, 10, LEAST, GREATEST}) {
            leavesAll("hit(" + other + ", 0)", Twins::busy, x -> x.hit(other, 0), REFUSED);
            leavesAll("hit(" + other + ", 1)", Twins::busy, x -> x.hit(other, 1), REFUSED);
            leavesAll("hit(0, " + other + ")", Twins::busy, x -> x.hit(0, other), REFUSED);
        }
        leavesAll("hit(1, 0)", Twins::busy, x -> x.hit(1, 0), 2);
        SegmentShelf x = new SegmentShelf();
        for (int i = 0; i < 11; i++) {
            add(x, i, 1);
        }
        x.flush();
        due("eleven hits", ask(x, 10, true, 1), 11);
        due("hit(9, 0)", x.hit(9, 0), 9);
        due("hit(10, 0)", x.hit(10, 0), REFUSED);
        due("one hit", ask(x, 10, true, range(3, 3)), 1);
        due("hit(0, 0)", x.hit(0, 0), 3);
        due("of the search before", x.hit(1, 0), REFUSED);
    }

    // Promise 15

    @Says("Promise 15: had a price 10 k .. 10 k + 9")
    private static void sharesOfTenPrices() {
        SegmentShelf x = new SegmentShelf();
        int[] count = new int[10];
        for (int k = 0; k < 10; k++) {
            add(x, 10 * k, 1);
            add(x, 10 * k + 9, 1);
            if (k % 3 == 0) {
                add(x, 10 * k + 5, 1);
            }
            count[k] = k % 3 == 0 ? 3 : 2;
        }
        x.flush();
        due("all, one kept", ask(x, 1, false, 1), 24);
        dueShares("of all hits, not those that are kept", x, count);
        due("the ends of a share", ask(x, 0, true, range(10, 19)), 2);
        dueShares("the ends of a share", x, 0, 2, 0, 0, 0, 0, 0, 0, 0, 0);
        due("beside a share", ask(x, 0, true, range(9, 20)), 4);
        dueShares("beside a share", x, 1, 2, 1, 0, 0, 0, 0, 0, 0, 0);
        due("like", x.like(0, 0), 23);
        count[0]--;
        dueShares("like", x, count);
    }

    @Says("Promise 15: of the latest search or like (that was not REFUSED or WRONG)")
    private static void sharesOfTheLatest() {
        SegmentShelf x = new SegmentShelf();
        busyWithoutQuery(x);
        dueShares("search", x, 0, 1, 0, 1, 0, 0, 0, 0, 0, 0);
        x.token(2);
        x.search(11, false);
        dueShares("REFUSED", x, 0, 1, 0, 1, 0, 0, 0, 0, 0, 0);
        x.token(2);
        x.search(10, false);
        dueShares("WRONG", x, 0, 1, 0, 1, 0, 0, 0, 0, 0, 0);
        x.like(4, 11);
        x.like(7, 1);
        x.like(3, 1);
        dueShares("like REFUSED", x, 0, 1, 0, 1, 0, 0, 0, 0, 0, 0);
        x.delete(0);
        x.settle();
        dueShares("as it had been", x, 0, 1, 0, 1, 0, 0, 0, 0, 0, 0);
        x.like(5, 1);
        dueShares("like without hits", x, 0, 0, 0, 0, 0, 0, 0, 0, 0, 0);
        ask(x, 0, false, 2);
        dueShares("search", x, 0, 0, 0, 0, 0, 1, 0, 0, 0, 0);
    }

    @Says("Promise 15: k 0 .. 9; 0 before; REFUSED for another k")
    private static void sharesThatAreNone() {
        SegmentShelf x = fourTexts();
        due("share(0) before", x.share(0), 0);
        due("share(9) before", x.share(9), 0);
        due("share(-1) before", x.share(-1), REFUSED);
        due("share(10) before", x.share(10), REFUSED);
        for (int k : new int[] {-1, 10, LEAST, GREATEST}) {
            leavesAll("share(" + k + ")", Twins::busy, y -> y.share(k), REFUSED);
        }
        leavesAll("share(1)", Twins::busy, y -> y.share(1), 1);
        leavesAll("share(9)", Twins::busy, y -> y.share(9), 0);
    }

    // Promise 16

    @Says("Promise 16: The pending query, which is empty then, becomes watch w (none if it is empty), "
        + "without news: how many tokens it has.")
    private static void watchesTakeTheQuery() {
        SegmentShelf x = new SegmentShelf();
        due("no token", x.watch(0), 0);
        due("1 token", observe(x, 0, 1), 1);
        due("the query is empty then", x.token(1), 1);
        tokens(x, 1);
        x.search(1, false);
        due("11 tokens", observe(x, 3, OR, 0, OR, 1, OR, 2, OR, 3, OR, 4, 5), 11);
        due("11 tokens", observe(x, 2, OR, OR, OR, OR, OR, 0, 1, 2, 3, 4, 6), 11);
        add(x, 1, 5);
        add(x, 1, 6);
        add(x, 1, 1);
        add(x, 1, 7);
        dueNews(x, 0, 2);
        dueNews(x, 1);
        dueNews(x, 2, 1, 2);
        dueNews(x, 3, 0, 2);
    }

    @Says("Promise 16: (none if it is empty), without news")
    private static void newWatchesHaveNoNews() {
        SegmentShelf x = new SegmentShelf();
        for (int w = 0; w < 4; w++) {
            observe(x, w, 1);
        }
        add(x, 1, 1);
        x.flush();
        due("another query", observe(x, 1, 2), 1);
        due("the same query", observe(x, 2, 1), 1);
        due("no query", x.watch(3), 0);
        dueNews(x, 1);
        dueNews(x, 2);
        dueNews(x, 3);
        dueNews(x, 0, 0);
        add(x, 1, 1);
        x.flush();
        dueNews(x, 0, 1);
        dueNews(x, 1);
        dueNews(x, 2, 1);
        dueNews(x, 3);
    }

    @Says("Promise 16: REFUSED, and nothing changes, if w is not 0 .. 3")
    private static void wrongWatches() {
        for (int w : new int[] {-1, 4, LEAST, GREATEST}) {
            leavesAll("watch(" + w + ")", Twins::busy, x -> x.watch(w), REFUSED);
            leavesAll("watch(" + w + ") of no query", Twins::busyWithoutQuery, x -> x.watch(w), REFUSED);
            leavesAll("watch(" + w + ") of a wrong query", BoundaryTest::twelveTokens, x -> x.watch(w), REFUSED);
        }
        SegmentShelf x = new SegmentShelf();
        due("watch(0)", observe(x, 0, 1), 1);
        due("watch(3)", observe(x, 3, 1), 1);
    }

    @Says("Promise 16: WRONG if it is no expression (the watch stays)")
    private static void watchOfNoExpression() {
        int[][] wrong = {{AND}, {0, 0}, {AND, 0}, {NEAR, range(0, 9), 0}, {OR, 0, OR, 1, OR, 2, OR, 3, OR, 4, OR, 5}};
        for (int[] query : wrong) {
            for (int w = 0; w < 4; w++) {
                int asked = w;
                leavesAs("watch(" + w + ")", x -> {
                    busyWithoutQuery(x);
                    tokens(x, query);
                }, x -> x.watch(asked), WRONG, Twins::busyWithoutQuery);
            }
        }
    }

    // Promise 17

    @Says("Promise 17: Takes the first news of watch w: the number")
    private static void newsAreTakenOnce() {
        SegmentShelf x = new SegmentShelf();
        observe(x, 0, range(0, 99));
        observe(x, 3, range(0, 99));
        x.add(1);
        x.add(1);
        x.flush();
        due("the first", x.next(0), 0);
        due("the second", x.next(0), 1);
        due("no more", x.next(0), REFUSED);
        x.delete(0);
        x.settle();
        due("of another watch, of a document that is gone", x.next(3), 0);
        due("the second", x.next(3), 1);
        due("no more", x.next(3), REFUSED);
    }

    @Says("Promise 17: REFUSED if there is none or no such watch")
    private static void newsThatAreNone() {
        for (int w : new int[] {-1, 4, LEAST, GREATEST}) {
            leavesAll("next(" + w + ")", Twins::busy, x -> x.next(w), REFUSED);
        }
        leavesAll("next(1) of no watch", Twins::busy, x -> x.next(1), REFUSED);
        leavesAll("next(3) of no watch", Twins::busy, x -> x.next(3), REFUSED);
        leavesAll("next(0) without news", x -> {
            busy(x);
            x.next(0);
            x.next(0);
        }, x -> x.next(0), REFUSED);
        leavesAll("next(0) of a new one", BoundaryTest::nothing, x -> x.next(0), REFUSED);
        SegmentShelf x = new SegmentShelf();
        busy(x);
        due("next(0)", x.next(0), 1);
        due("next(0)", x.next(0), 4);
        due("next(0)", x.next(0), REFUSED);
        due("next(2)", x.next(2), 0);
    }

    // Promise 18

    @Says("Promise 18: add: REFUSED is tested before FULL; with either the pending text stays.")
    private static void addRefusedBeforeFull() {
        leavesAll("add(100)", Twins::full, x -> x.add(100), REFUSED);
        leavesAll("add(-1)", Twins::full, x -> x.add(-1), REFUSED);
        leavesAll("add(99)", Twins::full, x -> x.add(99), FULL);
        leavesAll("add(0)", Twins::full, x -> x.add(0), FULL);
        SegmentShelf x = new SegmentShelf();
        full(x);
        due("add(100)", x.add(100), REFUSED);
        due("add(0)", x.add(0), FULL);
        due("the text stays", x.word(5), 3);
        x.settle();
        due("add(0)", x.add(0), 32);
        dueText(x, 32, 6, 4, 5);
    }

    @Says("Promise 18: search and watch: with REFUSED the pending query stays, with WRONG it is empty then.")
    private static void queriesAfterRefusedAndWrong() {
        SegmentShelf x = new SegmentShelf();
        tokens(x, AND, 0);
        due("search REFUSED, not WRONG", x.search(11, false), REFUSED);
        due("watch REFUSED, not WRONG", x.watch(4), REFUSED);
        due("the query stays", x.token(0), 3);
        due("and is an expression", x.search(1, false), 0);
        tokens(x, AND, 0);
        due("search WRONG", x.search(1, false), WRONG);
        due("the query is empty then", x.token(0), 1);
        due("token", x.token(0), 2);
        due("watch WRONG", x.watch(0), WRONG);
        due("the query is empty then", x.token(0), 1);
        due("and can be asked", x.search(1, false), 0);
        due("search of no query", x.search(11, false), REFUSED);
        due("search of no query", x.search(10, false), WRONG);
        due("watch of no query", x.watch(4), REFUSED);
        due("watch of no query", x.watch(3), 0);
    }

    @Says("Promise 18: like: with REFUSED nothing changes.")
    private static void likeRefusedChangesNothing() {
        leavesAll("like(99, 11)", Twins::busy, x -> x.like(99, 11), REFUSED);
        leavesAll("like(3, 11)", Twins::busy, x -> x.like(3, 11), REFUSED);
        leavesAll("like(0, 11)", Twins::full, x -> x.like(0, 11), REFUSED);
        leavesAll("like(32, 10)", Twins::full, x -> x.like(32, 10), REFUSED);
        leavesAll("like(0, -1)", BoundaryTest::twelveTokens, x -> x.like(0, -1), REFUSED);
    }
}
