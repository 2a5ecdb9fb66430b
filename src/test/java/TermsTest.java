import java.util.Arrays;

/** For each sentence of "Terms" (and of "What it is") that names a boundary, a test of its own. */
public final class TermsTest extends Sentences {
    public static void main(String[] args) throws Exception {
        holdAll(TermsTest.class);
    }

    /** The score of one span expression as the document has it; r is the sum of the words' digits. */
    private static int score(int r, int n, int ownLength, int count, int length) {
        return r * 220 * n / (100 * n + 30 + 90 * ownLength * count / length);
    }

    private static SegmentShelf flushed(int price, int... words) {
        SegmentShelf x = new SegmentShelf();
        add(x, price, words);
        x.flush();
        return x;
    }

    /** A word twelve times: all that joins it with itself has spans. */
    private static SegmentShelf twelveFives() {
        return flushed(50, 5, 5, 5, 5, 5, 5, 5, 5, 5, 5, 5, 5);
    }

    private static void dueMatch(SegmentShelf x, boolean want, int... tokens) {
        due("hits of " + Arrays.toString(tokens), ask(x, 1, false, tokens), want ? 1 : 0);
    }

    @Says("What it is: An object is used for at most 512 calls after it has been made")
    private static void the512thCallAnswers() {
        SegmentShelf x = new SegmentShelf();
        observe(x, 0, range(0, 99));
        for (int i = 0; i < 127; i++) {
            due("word", x.word(i % 8), 1);
            due("add", x.add(i % 100), i);
            x.flush();
            due("delete", x.delete(i), true);
        }
        // Four segments of level 3 took 27 flushes each; 19 flushes more are two of level 2 and one of 0.
        due("call 511, held(3)", x.held(3), 7);
        due("call 512, next(0)", x.next(0), 119);

        SegmentShelf y = new SegmentShelf();
        for (int i = 0; i < 255; i++) {
            y.add(0);
            y.delete(i);
        }
        due("call 511, add(0)", y.add(0), 255);
        due("call 512, about(255, 2)", y.about(255, 2), -1);
    }

    @Says("Terms: WORDS are 0 .. 7.")
    private static void words0To7() {
        SegmentShelf x = new SegmentShelf();
        due("word(0)", x.word(0), 1);
        due("word(7)", x.word(7), 2);
        due("word(8)", x.word(8), REFUSED);
        due("word(-1)", x.word(-1), REFUSED);
        x.add(1);
        dueText(x, 0, 0, 7);
        x.flush();
        dueMatch(x, true, 0);
        dueMatch(x, true, 7);
        due("8 is no word of a query", ask(x, 1, false, 8), WRONG);
    }

    @Says("Terms: a NUMBER (0, 1, 2, .., in the order in which they were added)")
    private static void numbersGoUpByOne() {
        SegmentShelf x = new SegmentShelf();
        due("the first", x.add(1), 0);
        due("the second", x.add(1), 1);
        x.delete(1);
        due("the number of a deleted one stays used", x.add(1), 2);
        due("add REFUSED", x.add(100), REFUSED);
        due("takes no number", x.add(1), 3);
        x.delete(0);
        x.delete(2);
        x.delete(3);
        x.settle();
        due("on an empty shelf", x.add(1), 4);
        for (int number = 5; number < 36; number++) {
            due("add", x.add(1), number);
        }
        due("add FULL", x.add(1), FULL);
        x.delete(4);
        x.settle();
        due("takes no number", x.add(1), 36);
    }

    @Says("Terms: a TEXT of 0 .. 12 words")
    private static void textsOf0To12Words() {
        SegmentShelf x = new SegmentShelf();
        add(x, 1);
        for (int i = 0; i < 12; i++) {
            due("word", x.word((i + 3) % 8), i + 1);
        }
        due("the thirteenth", x.word(0), REFUSED);
        due("the fourteenth", x.word(0), REFUSED);
        x.add(1);
        add(x, 1, 6);
        dueText(x, 0);
        dueText(x, 1, 3, 4, 5, 6, 7, 0, 1, 2, 3, 4, 5, 6);
        dueText(x, 2, 6);
    }

    @Says("Terms: a PRICE 0 .. 99")
    private static void prices0To99() {
        SegmentShelf x = new SegmentShelf();
        due("add(-1)", x.add(-1), REFUSED);
        due("add(0)", x.add(0), 0);
        due("add(99)", x.add(99), 1);
        due("add(100)", x.add(100), REFUSED);
        due("price", x.about(0, 0), 0);
        due("price", x.about(1, 0), 99);
        dueHeld(x, 2, 2, 0, 0);
    }

    @Says("Terms: HELD are those in the BUFFER and in SEGMENTS, at most 32 in all.")
    private static void atMost32AreHeld() {
        SegmentShelf x = new SegmentShelf();
        for (int i = 0; i < 31; i++) {
            x.add(1);
        }
        due("the 32nd", x.add(1), 31);
        due("the 33rd", x.add(1), FULL);
        dueHeld(x, 32, 0, 0, 4);

        SegmentShelf y = new SegmentShelf();
        for (int i = 0; i < 28; i++) {
            y.add(1);
        }
        flushSingles(y, 1);
        y.add(1);
        y.add(1);
        due("the 32nd, in the buffer", y.add(1), 31);
        dueHeld(y, 32, 3, 0, 4);
        due("the 33rd", y.add(1), FULL);
        y.delete(30);
        due("in the place of one deleted in the buffer", y.add(1), 32);
        due("one more", y.add(1), FULL);
        y.delete(0);
        due("a DELETED one is held", y.add(1), FULL);
        y.flush();
        dueSegments(y, 2, 31, 0, 1);
        due("until it is merged", y.add(1), 33);
        due("one more", y.add(1), FULL);
    }

    @Says("Terms: Segments stand in a row and have a LEVEL 0 .. 3")
    private static void levels0To3() {
        SegmentShelf x = new SegmentShelf();
        flushSingles(x, 1);
        due("the least level", x.segment(0, 0), 0);
        flushSingles(x, 26);
        dueSegments(x, 3, 27, 0, 0);
        for (int number = 0; number < 27; number++) {
            x.delete(number);
        }
        x.settle();
        for (int i = 0; i < 4; i++) {
            flushSingles(x, 1);
            due("settle", x.settle(), i + 1);
            due("the greatest level", x.segment(0, 0), 3);
        }
    }

    @Says("Terms: the documents in them stand in the order of their numbers")
    private static void documentsStandInOrder() {
        SegmentShelf x = new SegmentShelf();
        observe(x, 0, 1);
        for (int i = 0; i < 13; i++) {
            add(x, 90 - i, 1);
        }
        x.delete(0);
        x.flush();
        dueSegments(x, 1, 12, 1, 0, 0, 1, 0, 12);
        dueNews(x, 0, 5, 6, 7, 8, 9, 10, 11, 12);
        ask(x, 10, false, 1);
        dueFound("equal ones", x, 1, 2, 3, 4, 5, 6, 7, 8, 9, 10);
        x.settle();
        dueSegments(x, 3, 12, 0, 1);
        ask(x, 10, false, 1);
        dueFound("equal ones", x, 1, 2, 3, 4, 5, 6, 7, 8, 9, 10);
    }

    @Says("Terms: A new document comes into the buffer. If it has 4, it is FLUSHED")
    private static void theBufferHasNever4() {
        SegmentShelf x = new SegmentShelf();
        for (int i = 1; i < 4; i++) {
            x.add(1);
            dueHeld(x, i, i, 0, 0);
            due("in the buffer", x.about(i - 1, 2), -1);
        }
        due("the fourth", x.add(1), 3);
        dueHeld(x, 4, 0, 0, 1);
        dueSegments(x, 0, 4, 0, 0);
        x.add(1);
        x.add(1);
        x.add(1);
        x.delete(5);
        x.add(1);
        dueHeld(x, 7, 3, 0, 1);
        x.add(1);
        dueHeld(x, 8, 0, 0, 2);
        dueSegments(x, 0, 4, 0, 0, 0, 4, 0, 4);
    }

    @Says("Terms: a new segment of level 0 behind the others gets its documents, in their order")
    private static void newSegmentsComeBehind() {
        SegmentShelf x = new SegmentShelf();
        add(x, 1, 3, 4);
        x.settle();
        add(x, 2, 5);
        add(x, 3, 6, 7);
        x.flush();
        dueSegments(x, 3, 1, 0, 0, 0, 2, 0, 1);
        due("segment of 0", x.about(0, 2), 0);
        due("segment of 1", x.about(1, 2), 1);
        due("segment of 2", x.about(2, 2), 1);
        dueText(x, 0, 3, 4);
        dueText(x, 1, 5);
        dueText(x, 2, 6, 7);
    }

    @Says("Terms: as long as the last three segments have the same level, less than 3, "
        + "they become one of the next level")
    private static void threeOfOneLevelAreMerged() {
        SegmentShelf x = new SegmentShelf();
        flushSingles(x, 2);
        dueSegments(x, 0, 1, 0, 0, 0, 1, 0, 1);
        flushSingles(x, 1);
        dueSegments(x, 1, 3, 0, 0);
        flushSingles(x, 2);
        dueSegments(x, 1, 3, 0, 0, 0, 1, 0, 3, 0, 1, 0, 4);
        flushSingles(x, 3);
        dueSegments(x, 1, 3, 0, 0, 1, 3, 0, 3, 0, 1, 0, 6, 0, 1, 0, 7);
        flushSingles(x, 1);
        dueSegments(x, 2, 9, 0, 0);
        flushSingles(x, 17);
        dueSegments(x, 2, 9, 0, 0, 2, 9, 0, 9, 1, 3, 0, 18, 1, 3, 0, 21, 0, 1, 0, 24, 0, 1, 0, 25);
        flushSingles(x, 1);
        dueSegments(x, 3, 27, 0, 0);
    }

    @Says("Terms: the same level, less than 3")
    private static void threeOfLevel3AreNotMerged() {
        SegmentShelf x = new SegmentShelf();
        flushSingles(x, 1);
        x.settle();
        for (int i = 1; i < 82; i++) {
            int number = x.add(0);
            x.flush();
            if (i % 27 != 0) {
                x.delete(number);
            }
        }
        dueSegments(x, 3, 1, 0, 0, 3, 1, 0, 27, 3, 1, 0, 54, 3, 1, 0, 81);
        due("flush of no more", x.flush(), 4);
        flushSingles(x, 2);
        due("two of level 0 behind them", x.held(3), 6);
        due("settle", x.settle(), 6);
        dueSegments(x, 3, 6, 0, 0);
    }

    @Says("Terms: with their documents, but without those that are DELETED")
    private static void mergingDropsDeletedOnes() {
        SegmentShelf x = new SegmentShelf();
        flushSingles(x, 3);
        add(x, 1, 3);
        add(x, 2, 4);
        add(x, 3, 5);
        x.flush();
        add(x, 4, 6);
        x.flush();
        x.delete(1);
        x.delete(4);
        x.delete(6);
        dueSegments(x, 1, 3, 1, 0, 0, 3, 1, 3, 0, 1, 1, 6);
        add(x, 5, 7);
        x.flush();
        dueSegments(x, 1, 3, 1, 0, 1, 3, 0, 3);
        dueHeld(x, 6, 0, 1, 2);
        dueText(x, 3, 3);
        dueText(x, 5, 5);
        dueText(x, 7, 7);
        due("a segment that was not merged keeps its DELETED one", x.about(1, 2), 0);
        due("a dropped one", x.about(4, 0), NOT_KNOWN);
        due("a dropped one", x.about(6, 0), NOT_KNOWN);
    }

    /** Each flush brings a document that is not DELETED, so only settle can leave none. */
    @Says("Terms: if none is left, there is no segment in their place.")
    private static void noSegmentIsEmpty() {
        SegmentShelf x = new SegmentShelf();
        flushSingles(x, 5);
        for (int number = 0; number < 5; number++) {
            x.delete(number);
        }
        dueSegments(x, 1, 3, 3, 0, 0, 1, 1, 3, 0, 1, 1, 4);
        flushSingles(x, 1);
        dueSegments(x, 1, 3, 3, 0, 1, 1, 0, 5);
        x.delete(5);
        due("settle", x.settle(), 0);
        dueSegments(x);
        flushSingles(x, 1);
        dueSegments(x, 0, 1, 0, 6);
    }

    @Says("Terms: A document deleted in the buffer is gone at once")
    private static void deletedInTheBuffer() {
        SegmentShelf x = new SegmentShelf();
        observe(x, 0, range(0, 99));
        add(x, 1, 1);
        add(x, 2, 2, 2);
        add(x, 3, 3, 3, 3);
        due("delete", x.delete(0), true);
        dueHeld(x, 2, 2, 0, 0);
        due("about", x.about(0, 2), NOT_KNOWN);
        due("at", x.at(0, 0), REFUSED);
        due("like", x.like(0, 1), REFUSED);
        due("delete again", x.delete(0), false);
        dueText(x, 1, 2, 2);
        dueText(x, 2, 3, 3, 3);
        due("delete of the last", x.delete(2), true);
        x.flush();
        dueSegments(x, 0, 1, 0, 1);
        dueNews(x, 0, 1);
    }

    @Says("Terms: in a segment it is DELETED, and held until it is merged")
    private static void deletedInASegment() {
        SegmentShelf x = fourTexts();
        due("delete", x.delete(0), true);
        dueHeld(x, 4, 0, 1, 1);
        due("price", x.about(0, 0), 10);
        due("segment", x.about(0, 2), 0);
        dueText(x, 0, 0, 1);
        due("like", x.like(0, 1), 2);
        due("delete again", x.delete(0), false);
        flushSingles(x, 1);
        due("not merged yet", x.about(0, 0), 10);
        flushSingles(x, 1);
        dueSegments(x, 1, 5, 0, 1);
        due("merged", x.about(0, 0), NOT_KNOWN);
        dueHeld(x, 5, 0, 0, 1);
    }

    @Says("Terms: N is how many documents are in segments")
    private static void countOfDocuments() {
        SegmentShelf x = flushed(1, 0, 7, 7, 7);
        // DF(0) 1 and own length equal to LENGTH / N all the time: only the digits of 4 * (N + 1) change.
        due("N 1", scoreOfFirst(x, 0), score(4, 1, 4, 1, 4));
        add(x, 1, 7, 7, 7, 7);
        x.flush();
        due("N 2", scoreOfFirst(x, 0), score(4, 1, 4, 2, 8));
        add(x, 1, 7, 7, 7, 7);
        due("N 2 and one in the buffer", scoreOfFirst(x, 0), score(4, 1, 4, 2, 8));
        x.flush();
        due("N 3", scoreOfFirst(x, 0), score(5, 1, 4, 3, 12));
        x.delete(1);
        due("N 3, one of them DELETED", scoreOfFirst(x, 0), score(5, 1, 4, 3, 12));
        x.settle();
        due("N 2 again", scoreOfFirst(x, 0), score(4, 1, 4, 2, 8));
    }

    @Says("Terms: DF(w) how many of them have the word w in their texts")
    private static void documentsWithAWord() {
        SegmentShelf x = new SegmentShelf();
        add(x, 1, 0, 0, 0);
        add(x, 1, 1, 1, 0);
        add(x, 1, 1, 1, 1);
        x.flush();
        // N 3, LENGTH 9, own length 3: 8 * 4 / 3 is 10, of 4 digits, and 8 * 4 / 2 is 16, of 5.
        due("DF 2, one has the word three times", scoreOfFirst(x, 0), score(4, 3, 3, 3, 9));
        x.delete(1);
        due("DF 2, one of them DELETED", scoreOfFirst(x, 0), score(4, 3, 3, 3, 9));
        add(x, 1, 2, 2, 2);
        x.settle();
        due("DF 1", scoreOfFirst(x, 0), score(5, 3, 3, 3, 9));
        add(x, 1, 0, 0, 0);
        due("DF 1 and one in the buffer", scoreOfFirst(x, 0), score(5, 3, 3, 3, 9));
        x.flush();
        due("DF 2", scoreOfFirst(x, 0), score(4, 3, 3, 4, 12));
    }

    @Says("Terms: LENGTH how long these are together (DELETED ones count everywhere here)")
    private static void lengthOfAllTexts() {
        SegmentShelf x = flushed(1, 0);
        due("LENGTH 1", scoreOfFirst(x, 0), score(4, 1, 1, 1, 1));
        add(x, 1, 7, 7, 7, 7, 7, 7, 7, 7, 7, 7, 7, 7);
        due("with a long text in the buffer", scoreOfFirst(x, 0), score(4, 1, 1, 1, 1));
        x.flush();
        due("LENGTH 13", scoreOfFirst(x, 0), score(4, 1, 1, 2, 13));
        x.delete(1);
        due("LENGTH 13, the long text DELETED", scoreOfFirst(x, 0), score(4, 1, 1, 2, 13));
        x.settle();
        due("LENGTH 1 again", scoreOfFirst(x, 0), score(4, 1, 1, 1, 1));
    }

    @Says("Terms: QUERIES are prefix lists of 1 .. 12 tokens")
    private static void queriesOf1To12Tokens() {
        SegmentShelf x = twelveFives();
        due("no token", x.search(1, false), WRONG);
        due("1 token", ask(x, 1, false, 5), 1);
        due("2 tokens", ask(x, 1, false, 5, 5), WRONG);
        due("11 tokens", ask(x, 1, false, AND, 5, AND, 5, AND, 5, AND, 5, AND, 5, 5), 1);
        due("11 tokens", ask(x, 1, false, AND, AND, AND, AND, AND, 5, 5, 5, 5, 5, 5), 1);
        // All that joins two parts has an odd number of tokens, so no list of twelve is an expression.
        int[] twelve = {AND, 5, AND, 5, AND, 5, AND, 5, AND, 5, 5, 5};
        for (int i = 0; i < 12; i++) {
            due("token", x.token(twelve[i]), i + 1);
        }
        due("the thirteenth token", x.token(5), REFUSED);
        due("12 tokens", x.search(1, false), WRONG);
        int[] thirteen = {AND, 5, AND, 5, AND, 5, AND, 5, AND, 5, AND, 5, 5};
        due("13 tokens, the last one refused", ask(x, 1, false, thirteen), WRONG);
    }

    @Says("Terms: prefix lists")
    private static void operatorsComeFirst() {
        SegmentShelf x = twelveFives();
        due("operator first", ask(x, 1, false, AND, 5, 5), 1);
        int[][] wrong = {
            {AND}, {5, AND, 5}, {5, 5, AND}, {AND, 5}, {AND, 5, 5, 5}, {5, AND, 5, 5}, {AND, AND, 5, 5}, {NEXT, 5},
            {AND, 5, 5, AND, 5, 5}, {OR, WITHOUT, 5, 5}, {range(0, 99), range(0, 99)}, {AND, 5, 5, range(0, 99)}};
        for (int[] tokens : wrong) {
            due("search of " + Arrays.toString(tokens), ask(x, 1, false, tokens), WRONG);
        }
    }

    @Says("Terms: 11 NEXT s t, 12 NEAR s t; these are SPANS, as s and t must be.")
    private static void spansAreMadeOfSpans() {
        SegmentShelf x = twelveFives();
        int[][] spans = {{5}, {NEXT, 5, 5}, {NEAR, 5, 5}, {NEXT, NEAR, 5, 5, 5}};
        int[][] others = {
            {range(0, 99)}, {AND, 5, 5}, {OR, 5, 5}, {WITHOUT, 5, 6}, {NEXT, 5, range(0, 99)}, {NEAR, AND, 5, 5, 5}};
        for (int join = NEXT; join <= NEAR; join++) {
            for (int[] span : spans) {
                due("spans in front", ask(x, 1, false, joined(join, span, 5)), 1);
                due("spans behind", ask(x, 1, false, joined(join, 5, span)), 1);
            }
            for (int[] other : others) {
                due("no spans in front", ask(x, 1, false, joined(join, other, 5)), WRONG);
                due("no spans behind", ask(x, 1, false, joined(join, 5, other)), WRONG);
            }
        }
    }

    private static int[] joined(int join, int[] first, int second) {
        int[] tokens = new int[first.length + 2];
        tokens[0] = join;
        System.arraycopy(first, 0, tokens, 1, first.length);
        tokens[first.length + 1] = second;
        return tokens;
    }

    private static int[] joined(int join, int first, int[] second) {
        int[] tokens = new int[second.length + 2];
        tokens[0] = join;
        tokens[1] = first;
        System.arraycopy(second, 0, tokens, 2, second.length);
        return tokens;
    }

    @Says("Terms: EXPRESSIONS are spans, 8 AND x y, 9 OR x y, 10 WITHOUT x y of expressions")
    private static void expressionsAreMadeOfExpressions() {
        SegmentShelf x = twelveFives();
        int[][] parts = {
            {5}, {range(0, 99)}, {NEXT, 5, 5}, {NEAR, 5, 5}, {AND, 5, 5}, {OR, 6, 5}, {WITHOUT, 5, 6}, {OR, 5, range(1, 0)}};
        for (int[] part : parts) {
            due("AND", ask(x, 1, false, joined(AND, part, 5)), 1);
            due("AND", ask(x, 1, false, joined(AND, 5, part)), 1);
            due("OR", ask(x, 1, false, joined(OR, part, 6)), 1);
            due("OR", ask(x, 1, false, joined(OR, 6, part)), 1);
            due("WITHOUT", ask(x, 1, false, joined(WITHOUT, part, 6)), 1);
            due("WITHOUT", ask(x, 1, false, joined(WITHOUT, 5, part)), 0);
        }
    }

    @Says("Terms: 1000 + 100 l + h a RANGE (l, h 0 .. 99)")
    private static void rangesOf0To99() {
        SegmentShelf x = new SegmentShelf();
        due("below the first", x.token(999), REFUSED);
        due("behind the last", x.token(11000), REFUSED);
        due("no token yet", x.token(1000), 1);
        due("the last", x.token(10999), 2);
        x.watch(0);
        for (int price : new int[] {0, 1, 98, 99}) {
            add(x, price);
        }
        due("l 0, h 0", ask(x, 10, true, 1000), 1);
        dueFound("l 0, h 0", x, 0);
        due("l 0, h 1", ask(x, 10, true, 1001), 2);
        due("l 0, h 99", ask(x, 10, true, 1099), 4);
        due("l 1, h 0", ask(x, 10, true, 1100), 0);
        due("l 1, h 99", ask(x, 10, true, 1199), 3);
        due("l 99, h 0", ask(x, 10, true, 10900), 0);
        due("l 98, h 99", ask(x, 10, true, 10899), 2);
        due("l 99, h 98", ask(x, 10, true, 10998), 0);
        due("l 99, h 99", ask(x, 10, true, 10999), 1);
        dueFound("l 99, h 99", x, 3);
    }

    @Says("Terms: of a word (i, i) for each place where it stands")
    private static void spansOfAWord() {
        SegmentShelf x = flushed(1, 3, 1, 1, 1, 1, 1, 1, 1, 1, 1, 1, 4);
        due("in the first place", scoreOfFirst(x, 3), score(4, 1, 12, 1, 12));
        due("in the last place", scoreOfFirst(x, 4), score(4, 1, 12, 1, 12));
        due("in ten places", scoreOfFirst(x, 1), score(4, 10, 12, 1, 12));
        dueMatch(x, false, 0);
        // The place of a longer text is used again for a shorter one.
        x.delete(0);
        x.settle();
        add(x, 1, 2);
        add(x, 1);
        x.flush();
        due("the shorter text has its own words alone", scoreOfFirst(x, 2), score(4, 1, 1, 2, 1));
        dueMatch(x, false, 1);
        dueMatch(x, false, 4);
    }

    @Says("Terms: of NEXT (i, l) if s has (i, j) and t has (j + 1, l) for some j")
    private static void nextIsTheNextPlace() {
        SegmentShelf x = flushed(1, 0, 1, 2, 3, 3, 4, 5, 5, 5, 5, 6, 7);
        dueMatch(x, true, NEXT, 0, 1);
        dueMatch(x, true, NEXT, 6, 7);
        dueMatch(x, true, NEXT, 3, 3);
        dueMatch(x, false, NEXT, 0, 0);
        dueMatch(x, false, NEXT, 0, 2);
        dueMatch(x, false, NEXT, 1, 0);
        dueMatch(x, false, NEXT, 7, 0);
        dueMatch(x, false, NEXT, 7, 7);
        dueMatch(x, true, NEXT, NEXT, 0, 1, 2);
        dueMatch(x, true, NEXT, 0, NEXT, 1, 2);
        dueMatch(x, true, NEXT, NEXT, 0, 1, NEXT, 2, 3);
        dueMatch(x, false, NEXT, NEXT, 0, 1, 3);
        dueMatch(x, false, NEXT, 0, NEXT, 2, 3);
        dueMatch(x, false, NEXT, NEXT, 0, 1, NEXT, 1, 2);
        dueMatch(x, true, NEXT, 0, NEXT, 1, NEXT, 2, NEXT, 3, NEXT, 3, 4);
        due("one pair", scoreOfFirst(x, NEXT, 6, 7), score(8, 1, 12, 1, 12));
        due("three pairs", scoreOfFirst(x, NEXT, 5, 5), score(8, 3, 12, 1, 12));
        add(x, 1, 7);
        x.settle();
        dueMatch(x, false, NEXT, 7, 7);
        // A text does not go on at its beginning, nor in the text that comes behind it.
        SegmentShelf y = flushed(1, 7, 1, 1, 1, 1, 1, 1, 1, 1, 1, 1, 7);
        dueMatch(y, false, NEXT, 7, 7);
        dueMatch(y, false, NEXT, 7, 2);
        due("eleven pairs in twelve places", scoreOfFirst(twelveFives(), NEXT, 5, 5), score(8, 11, 12, 1, 12));
    }

    @Says("Terms: of NEAR if s has (i, j) and t has (k, l) with j < k <= j + 3")
    private static void nearIsUpToThreePlacesOn() {
        SegmentShelf x = flushed(1, 0, 1, 2, 3, 4, 5, 6, 7);
        for (int k = 0; k < 8; k++) {
            dueMatch(x, k > 0 && k <= 3, NEAR, 0, k);
            dueMatch(x, k > 2 && k <= 5, NEAR, 2, k);
            dueMatch(x, k > 5 && k <= 8, NEAR, 5, k);
            dueMatch(x, k > 2 && k <= 5, NEAR, NEXT, 1, 2, k);
            dueMatch(x, k >= 1 && k < 4, NEAR, k, NEXT, 4, 5);
        }
        dueMatch(x, true, NEAR, NEAR, 0, 3, 6);
        dueMatch(x, false, NEAR, NEAR, 0, 3, 7);
        dueMatch(x, true, NEAR, 1, NEAR, 4, 7);
        dueMatch(x, false, NEAR, 0, NEAR, 4, 7);

        SegmentShelf y = flushed(1, 0, 2, 2, 2, 2, 2, 2, 2, 0, 2, 2, 1);
        dueMatch(y, true, NEAR, 0, 1);
        dueMatch(y, false, NEAR, 0, 0);
        dueMatch(y, false, NEAR, 1, 0);
        dueMatch(y, false, NEAR, 1, 1);
        due("one pair at the end", scoreOfFirst(y, NEAR, 0, 1), score(8, 1, 12, 1, 12));
        due("three pairs and two", scoreOfFirst(y, NEAR, 0, 2), score(8, 5, 12, 1, 12));
        due("3 + 3 + .. + 2 + 1 pairs", scoreOfFirst(twelveFives(), NEAR, 5, 5), score(8, 30, 12, 1, 12));
        SegmentShelf z = flushed(1, 7, 1, 1, 1, 1, 1, 1, 1, 1, 1, 1, 7);
        dueMatch(z, false, NEAR, 7, 7);
        dueMatch(z, false, NEAR, 7, 2);
        add(y, 1, 1, 1, 1);
        y.settle();
        due("a text ends before the next one", ask(y, 1, false, NEAR, 1, NEAR, 1, NEAR, 1, 1), 0);
    }

    @Says("Terms: Each pair counts once.")
    private static void eachPairCountsOnce() {
        SegmentShelf x = flushed(1, 0, 1, 1, 2);
        // From 0 to 2 there are two ways, over the one 1 or the other: one pair.
        due("one pair, two ways", scoreOfFirst(x, NEAR, NEAR, 0, 1, 2), score(12, 1, 4, 1, 4));
        due("the same from the right", scoreOfFirst(x, NEAR, 0, NEAR, 1, 2), score(12, 1, 4, 1, 4));
        due("two pairs that end apart", scoreOfFirst(x, NEAR, 0, 1), score(8, 2, 4, 1, 4));
        due("two pairs that begin apart", scoreOfFirst(x, NEAR, 1, 2), score(8, 2, 4, 1, 4));
        // Three steps of 1 .. 3 lead from each place to those 3 .. 9 on: 9 + 8 + .. + 3 pairs.
        due("many ways", scoreOfFirst(twelveFives(), NEAR, NEAR, 5, 5, NEAR, 5, 5), score(16, 42, 12, 1, 12));
    }

    @Says("Terms: A document MATCHES spans if it has some")
    private static void spansMatchIfThereAreSome() {
        SegmentShelf x = flushed(1, 0, 1);
        dueMatch(x, true, 0);
        dueMatch(x, false, 2);
        dueMatch(x, true, NEXT, 0, 1);
        dueMatch(x, false, NEXT, 0, 2);
        dueMatch(flushed(1), false, 0);
        // Seventeen documents and one word: the score of the match is 7 * 220 / (130 + 90 * 17).
        SegmentShelf y = flushed(1, 0);
        flushSingles(y, 16);
        due("a match of score 0", ask(y, 1, false, 0), 1);
        dueHits("a match of score 0", y, 0, 0);
    }

    @Says("Terms: a range if l <= price <= h")
    private static void rangesHoldBothEnds() {
        SegmentShelf x = flushed(50);
        dueMatch(x, true, range(50, 50));
        dueMatch(x, true, range(50, 99));
        dueMatch(x, true, range(0, 50));
        dueMatch(x, true, range(49, 51));
        dueMatch(x, false, range(51, 99));
        dueMatch(x, false, range(0, 49));
        dueMatch(x, false, range(51, 49));
        dueMatch(x, false, range(99, 50));
        dueMatch(x, false, range(50, 0));
    }

    @Says("Terms: AND if both, OR if one of both, WITHOUT if the first one and not the second.")
    private static void joinsOfTwo() {
        SegmentShelf x = flushed(50, 1);
        int[] parts = {0, 1};
        for (int first : parts) {
            for (int second : parts) {
                dueMatch(x, first == 1 && second == 1, AND, first, second);
                dueMatch(x, first == 1 || second == 1, OR, first, second);
                dueMatch(x, first == 1 && second == 0, WITHOUT, first, second);
                dueMatch(x, first == 1 || second == 0, OR, first, WITHOUT, 1, second);
                dueMatch(x, first == 1 && second == 1, WITHOUT, first, WITHOUT, 1, second);
            }
        }
    }

    @Says("Terms: all spans in the query that are not part of other spans")
    private static void onlyOuterSpansCount() {
        SegmentShelf x = flushed(1, 0, 1, 0, 0, 0, 0);
        due("NEXT alone", scoreOfFirst(x, NEXT, 0, 1), score(8, 1, 6, 1, 6));
        due("NEXT of NEXT", scoreOfFirst(x, NEXT, NEXT, 0, 1, 0), score(12, 1, 6, 1, 6));
        due("NEXT and its words", scoreOfFirst(x, AND, NEXT, 0, 1, AND, 0, 1),
            score(8, 1, 6, 1, 6) + score(4, 5, 6, 1, 6) + score(4, 1, 6, 1, 6));
        due("a word twice", scoreOfFirst(x, OR, 0, 0), 2 * score(4, 5, 6, 1, 6));
        due("a range alone", scoreOfFirst(x, range(0, 99)), 0);
        due("a range with a word", scoreOfFirst(x, AND, range(0, 99), 0), score(4, 5, 6, 1, 6));
        due("in a part that does not match", scoreOfFirst(x, OR, range(0, 99), AND, 0, 7), score(4, 5, 6, 1, 6));
    }

    @Says("Terms: and not in the second part of a WITHOUT")
    private static void secondPartsOfWithoutDoNotCount() {
        SegmentShelf x = flushed(1, 0, 1);
        int one = score(4, 1, 2, 1, 2);
        due("second part", scoreOfFirst(x, WITHOUT, 0, AND, 1, 7), one);
        due("deeper in it", scoreOfFirst(x, WITHOUT, 0, AND, 7, OR, 1, 1), one);
        due("first part of a WITHOUT in it", scoreOfFirst(x, WITHOUT, 0, WITHOUT, 1, 1), one);
        due("first part", scoreOfFirst(x, WITHOUT, AND, 0, 1, 7), 2 * one);
        due("a WITHOUT in the first part", scoreOfFirst(x, WITHOUT, WITHOUT, AND, 0, 1, 7, AND, 1, 7), 2 * one);
        due("beside it", scoreOfFirst(x, AND, WITHOUT, 0, AND, 1, 7, 1), 2 * one);
        due("in one that does not match", scoreOfFirst(x, OR, WITHOUT, 0, 1, 1), 2 * one);
    }

    @Says("Terms: n being how many it has (0 gives 0)")
    private static void noSpansGiveNoScore() {
        SegmentShelf x = flushed(1, 0, 1);
        int one = score(4, 1, 2, 1, 2);
        due("0 of one word", scoreOfFirst(x, OR, 0, 7), one);
        due("0 of one word", scoreOfFirst(x, OR, 7, 0), one);
        due("0 of a NEXT", scoreOfFirst(x, OR, NEXT, 1, 0, 0), one);
        due("0 of all", scoreOfFirst(x, OR, 7, range(0, 99)), 0);
        // LENGTH 0 must not divide.
        SegmentShelf y = flushed(1);
        due("no words at all", scoreOfFirst(y, OR, 7, range(0, 99)), 0);
        due("hits", ask(y, 1, false, 7), 0);
    }

    @Says("Terms: R the sum, over the words in these spans (as often as they stand there)")
    private static void wordsCountAsOftenAsTheyStand() {
        SegmentShelf x = new SegmentShelf();
        add(x, 1, 0, 0, 1);
        add(x, 1, 1, 1, 1);
        add(x, 1, 1, 1, 1);
        x.flush();
        // N 3: the word 0 has 16, of 5 digits, and the word 1 has 8, of 4.
        due("0 twice", scoreOfFirst(x, NEXT, 0, 0), score(10, 1, 3, 3, 9));
        due("0 and 1", scoreOfFirst(x, NEXT, 0, 1), score(9, 1, 3, 3, 9));
        due("0 twice and 1", scoreOfFirst(x, NEXT, 0, NEXT, 0, 1), score(14, 1, 3, 3, 9));
        due("1 three times", scoreOfFirst(x, NEXT, NEXT, 1, 1, 1), score(12, 1, 3, 3, 9));
    }

    @Says("Terms: how many binary digits 8 * (N + 1) / (DF + 1) has")
    private static void binaryDigitsOfRareWords() {
        // A word in one document alone has 4 * (N + 1): a digit more from 16, 32, 64 and 128 on.
        SegmentShelf x = flushed(1, 0);
        for (int n = 1; n <= 32; n++) {
            int digits = n < 3 ? 4 : n < 7 ? 5 : n < 15 ? 6 : n < 31 ? 7 : 8;
            due("N " + n, scoreOfFirst(x, 0), score(digits, 1, 1, n, 1 + 6 * (n - 1)));
            add(x, 1, 7, 7, 7, 7, 7, 7);
            x.flush();
        }
        // A word in nine documents: 8 * 19 / 10 is 15, of 4 digits; 8 * 20 / 10 is 16, of 5.
        SegmentShelf y = new SegmentShelf();
        for (int i = 0; i < 18; i++) {
            add(y, 1, i < 9 ? 0 : 7);
        }
        y.flush();
        due("15.2", scoreOfFirst(y, 0), score(4, 1, 1, 18, 18));
        add(y, 1, 7);
        y.flush();
        due("16", scoreOfFirst(y, 0), score(5, 1, 1, 19, 19));
    }

    @Says("Terms: all divisions without fraction, from the left on: "
        + "90 * length * N is divided by LENGTH, R * 220 * n by the sum")
    private static void divisionsHaveNoFraction() {
        SegmentShelf x = flushed(1, 0);
        for (int i = 0; i < 8; i++) {
            add(x, 1, 7, 7, 7, 7, 7, 7, 7, 7, 7, 7, 7, 7);
        }
        // N 9, LENGTH 97, 6 digits: 90 * 1 * 9 / 97 is 8, and 6 * 220 / (130 + 8) is 9;
        // 90 / 97 * 9 and 9 / 97 would be 0 and give 10, 220 / 138 would be 1 and give 6.
        due("cut at the end", scoreOfFirst(x, 0), 9);
        // N 9, own length 12: 90 * 12 * 9 / 97 is 100, and 4 * 220 * 12 / (1230 + 100) is 7.
        due("cut at the end", scoreOfFirst(x, 7), 7);
    }

    @Says("Terms: WATCHES 0 .. 3 are queries, none at first.")
    private static void watches0To3() {
        SegmentShelf x = new SegmentShelf();
        add(x, 0, 0);
        x.flush();
        for (int w = 0; w < 4; w++) {
            due("no news of no watch", x.next(w), REFUSED);
        }
        for (int w = 0; w < 4; w++) {
            due("watch(" + w + ")", observe(x, w, w), 1);
        }
        due("watch(4)", observe(x, 4, 0), REFUSED);
        due("watch(-1)", x.watch(-1), REFUSED);
        for (int w = 0; w < 4; w++) {
            add(x, 0, w);
        }
        for (int w = 0; w < 4; w++) {
            dueNews(x, w, w + 1);
        }
    }

    @Says("Terms: Each document that comes into a segment by flushing (before merging) "
        + "and matches a watch is news of it")
    private static void newsComeByFlushing() {
        SegmentShelf x = new SegmentShelf();
        observe(x, 0, 1);
        observe(x, 3, WITHOUT, range(10, 20), 1);
        add(x, 10, 1);
        add(x, 20, 2);
        add(x, 21, 2);
        dueNews(x, 0);
        dueNews(x, 3);
        add(x, 9, 1);
        dueNews(x, 0, 0, 3);
        dueNews(x, 3, 1);
        add(x, 1, 1);
        x.flush();
        dueNews(x, 0, 4);
        x.flush();
        add(x, 15, 1);
        add(x, 15, 3);
        x.delete(5);
        x.flush();
        dueSegments(x, 1, 6, 0, 0);
        dueNews(x, 0);
        dueNews(x, 3, 6);
        add(x, 1, 1);
        x.settle();
        dueNews(x, 0, 7);
        x.settle();
        dueNews(x, 0);
        dueNews(x, 3);
    }

    @Says("Terms: of more than 8 that wait the first is lost")
    private static void eightNewsWait() {
        for (int w = 0; w < 4; w++) {
            SegmentShelf x = new SegmentShelf();
            observe(x, w, 1);
            observe(x, (w + 1) % 4, range(8, 8));
            addOnes(x, 0, 8);
            dueNews(x, w, 0, 1, 2, 3, 4, 5, 6, 7);
            addOnes(x, 8, 17);
            x.flush();
            dueNews(x, w, 9, 10, 11, 12, 13, 14, 15, 16);
            dueNews(x, (w + 1) % 4, 8);
            addOnes(x, 17, 25);
            due("one is taken", x.next(w), 17);
            addOnes(x, 25, 26);
            x.flush();
            dueNews(x, w, 18, 19, 20, 21, 22, 23, 24, 25);
        }
    }

    private static void addOnes(SegmentShelf x, int first, int behind) {
        for (int price = first; price < behind; price++) {
            add(x, price, 1);
        }
    }

    @Says("Terms: HITS are the documents in segments that are not DELETED and match")
    private static void hitsAreInSegments() {
        SegmentShelf x = new SegmentShelf();
        add(x, 1, 0);
        due("in the buffer", ask(x, 10, false, 0), 0);
        x.flush();
        due("in a segment", ask(x, 10, false, 0), 1);
        add(x, 2, 0);
        add(x, 3, 1);
        x.flush();
        add(x, 4, 0);
        due("in two segments", ask(x, 10, false, 0), 2);
        dueFound("in two segments", x, 0, 1);
        x.delete(0);
        due("one DELETED", ask(x, 10, false, 0), 1);
        dueFound("one DELETED", x, 1);
    }

    @Says("Terms: by score, the greatest first, or by price, the least first; of equal ones the lower number first")
    private static void equalHitsStandByNumber() {
        SegmentShelf x = new SegmentShelf();
        add(x, 30, 0, 1);
        add(x, 20, 0, 0);
        add(x, 30, 0, 1);
        add(x, 20, 0, 0);
        add(x, 99, 0, 0);
        add(x, 0, 0, 1);
        x.flush();
        ask(x, 10, false, 0);
        dueFound("by score", x, 1, 3, 4, 0, 2, 5);
        ask(x, 10, true, 0);
        dueFound("by price", x, 5, 1, 3, 0, 2, 4);
        ask(x, 2, false, 0);
        dueFound("equal ones at the limit, by score", x, 1, 3);
        ask(x, 4, false, 0);
        dueFound("equal ones at the limit, by score", x, 1, 3, 4, 0);
        ask(x, 2, true, 0);
        dueFound("equal ones at the limit, by price", x, 5, 1);
        ask(x, 4, true, 0);
        dueFound("equal ones at the limit, by price", x, 5, 1, 3, 0);
        ask(x, 10, true, range(0, 99));
        dueFound("all scores 0, by price", x, 5, 1, 3, 0, 2, 4);
        ask(x, 10, false, range(0, 99));
        dueFound("all scores 0, by score", x, 0, 1, 2, 3, 4, 5);
    }
}
