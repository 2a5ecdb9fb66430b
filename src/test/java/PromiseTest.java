import java.util.Arrays;

/** For each promise of the document: ordinary calls, the edges that it names, and wrong calls. */
public final class PromiseTest extends Checks {
    public static void main(String[] args) {
        Runnable[] promises = {
            PromiseTest::newObject, PromiseTest::word, PromiseTest::add, PromiseTest::flush,
            PromiseTest::delete, PromiseTest::settle, PromiseTest::held, PromiseTest::segment,
            PromiseTest::about, PromiseTest::at, PromiseTest::token, PromiseTest::search,
            PromiseTest::like, PromiseTest::hit, PromiseTest::share, PromiseTest::watch,
            PromiseTest::next, PromiseTest::orderAndLimits};
        for (int i = 0; i < promises.length; i++) {
            testing("promise " + (i + 1));
            promises[i].run();
        }
        conclude("all promises hold");
    }

    private static void newObject() {
        SegmentShelf x = new SegmentShelf();
        dueHeld(x, 0, 0, 0, 0);
        dueSegments(x);
        dueHits("new", x);
        for (int k = 0; k < 10; k++) {
            due("share", x.share(k), 0);
        }
        for (int w = 0; w < 4; w++) {
            due("next", x.next(w), REFUSED);
        }
        due("about(0, 0)", x.about(0, 0), -5);
        due("at(0, 0)", x.at(0, 0), REFUSED);
        due("delete(0)", x.delete(0), false);
        due("like(0, 1)", x.like(0, 1), REFUSED);
        due("flush()", x.flush(), 0);
        due("settle()", x.settle(), 0);
        due("watch(0) of no query", x.watch(0), 0);
        due("search of no query", x.search(1, false), WRONG);
        due("word(0)", x.word(0), 1);
        due("token(0)", x.token(0), 1);
        due("another object's add(0)", new SegmentShelf().add(0), 0);
        due("add(0)", x.add(0), 0);
        due("REFUSED", SegmentShelf.REFUSED, -1);
        due("FULL", SegmentShelf.FULL, -2);
        due("WRONG", SegmentShelf.WRONG, -3);
    }

    private static void word() {
        SegmentShelf x = new SegmentShelf();
        for (int w : new int[] {8, 9, 1000, -1, Integer.MIN_VALUE, Integer.MAX_VALUE}) {
            due("word(" + w + ")", x.word(w), REFUSED);
        }
        for (int i = 0; i < 12; i++) {
            due("word", x.word(i % 8), i + 1);
        }
        due("word of a full text", x.word(0), REFUSED);
        due("wrong word of a full text", x.word(8), REFUSED);
        due("add", x.add(1), 0);
        for (int i = 0; i < 12; i++) {
            due("at", x.at(0, i), i % 8);
        }
        due("word of the next text", x.word(7), 1);
    }

    private static void add() {
        SegmentShelf x = new SegmentShelf();
        x.word(3);
        for (int price : new int[] {-1, 100, Integer.MIN_VALUE, Integer.MAX_VALUE}) {
            due("add(" + price + ")", x.add(price), REFUSED);
        }
        due("add(0)", x.add(0), 0);
        due("add(99)", x.add(99), 1);
        due("length of the first", x.about(0, 1), 1);
        due("length of the second", x.about(1, 1), 0);
        due("price of the second", x.about(1, 0), 99);
        x.delete(1);
        due("a number is not used again", x.add(5), 2);
        due("add", x.add(5), 3);
        dueHeld(x, 3, 3, 0, 0);
        due("the fourth in the buffer", x.add(5), 4);
        dueHeld(x, 4, 0, 0, 1);
        for (int number = 5; number < 33; number++) {
            due("add", x.add(number), number);
        }
        dueHeld(x, 32, 0, 0, 4);
        x.word(6);
        due("add to a full shelf", x.add(1), FULL);
        x.delete(0);
        due("DELETED ones are held", x.add(1), FULL);
        x.settle();
        due("add after settle", x.add(1), 33);
        due("the text stayed", x.at(33, 0), 6);
        due("the text is empty then", x.word(1), 1);
    }

    private static void flush() {
        SegmentShelf x = new SegmentShelf();
        due("flush of nothing", x.flush(), 0);
        add(x, 10, 1, 2);
        add(x, 11, 3);
        due("flush of two", x.flush(), 1);
        dueSegments(x, 0, 2, 0, 0);
        due("flush of no more", x.flush(), 1);
        due("at", x.at(1, 0), 3);
        flushSingles(x, 1);
        dueSegments(x, 0, 2, 0, 0, 0, 1, 0, 2);
        x.add(0);
        due("flush that merges", x.flush(), 1);
        dueSegments(x, 1, 4, 0, 0);
        flushSingles(x, 3);
        dueSegments(x, 1, 4, 0, 0, 1, 3, 0, 4);
        flushSingles(x, 2);
        due("about", x.about(8, 2), 3);
        x.delete(1);
        x.delete(5);
        dueSegments(x, 1, 4, 1, 0, 1, 3, 1, 4, 0, 1, 0, 7, 0, 1, 0, 8);
        x.add(0);
        due("flush that merges twice", x.flush(), 1);
        dueSegments(x, 2, 8, 0, 0);
        due("a merged document that was DELETED", x.about(1, 0), -5);
        due("one behind it", x.at(0, 1), 2);

        mergesToTheTop();
        mergesToNothing();
        keepsOtherSegments();
    }

    private static void mergesToTheTop() {
        SegmentShelf x = new SegmentShelf();
        flushSingles(x, 26);
        dueSegments(x, 2, 9, 0, 0, 2, 9, 0, 9, 1, 3, 0, 18, 1, 3, 0, 21, 0, 1, 0, 24, 0, 1, 0, 25);
        flushSingles(x, 1);
        dueSegments(x, 3, 27, 0, 0);
        for (int number = 3; number < 27; number++) {
            x.delete(number);
        }
        x.settle();
        // Three segments of level 3 stay three: two more of them need 27 flushes each.
        for (int round = 0; round < 2; round++) {
            for (int i = 0; i < 27; i++) {
                int number = x.add(1);
                x.flush();
                if (i < 26) {
                    x.delete(number);
                }
            }
        }
        dueSegments(x, 3, 3, 0, 0, 3, 1, 0, 53, 3, 1, 0, 80);
        due("flush of no more", x.flush(), 3);
    }

    private static void mergesToNothing() {
        SegmentShelf x = new SegmentShelf();
        flushSingles(x, 5);
        x.delete(3);
        x.delete(4);
        dueSegments(x, 1, 3, 0, 0, 0, 1, 1, 3, 0, 1, 1, 4);
        observe(x, 0, 1000);
        x.add(0);
        x.flush();
        dueSegments(x, 1, 3, 0, 0, 1, 1, 0, 5);
        dueNews(x, 0, 5);
        flushSingles(x, 2);
        dueSegments(x, 1, 3, 0, 0, 1, 1, 0, 5, 0, 1, 0, 6, 0, 1, 0, 7);
        for (int number = 0; number < 8; number++) {
            x.delete(number);
        }
        dueHeld(x, 6, 0, 6, 4);
        x.add(0);
        x.delete(8);
        due("flush of an emptied buffer", x.flush(), 4);
        due("settle of DELETED ones", x.settle(), 0);
        dueHeld(x, 0, 0, 0, 0);
    }

    private static void keepsOtherSegments() {
        SegmentShelf x = new SegmentShelf();
        flushSingles(x, 5);
        x.delete(1);
        add(x, 7, 5);
        x.flush();
        dueSegments(x, 1, 3, 1, 0, 1, 3, 0, 3);
        due("DELETED in a segment that was not merged", x.about(1, 2), 0);
        due("at", x.at(5, 0), 5);
    }

    private static void delete() {
        SegmentShelf x = new SegmentShelf();
        add(x, 10, 1);
        add(x, 20, 2, 3);
        add(x, 30, 4, 5, 6);
        due("delete of none", x.delete(3), false);
        for (int number : WRONG_NUMBERS) {
            due("delete(" + number + ")", x.delete(number), false);
        }
        due("delete in the buffer", x.delete(1), true);
        due("delete again", x.delete(1), false);
        dueHeld(x, 2, 2, 0, 0);
        due("about a deleted one", x.about(1, 0), -5);
        due("the one behind keeps its price", x.about(2, 0), 30);
        due("the one behind keeps its text", x.at(2, 2), 6);
        x.flush();
        due("delete in a segment", x.delete(2), true);
        due("delete of a DELETED one", x.delete(2), false);
        dueHeld(x, 2, 0, 1, 1);
        due("about a DELETED one", x.about(2, 1), 3);
        due("at of a DELETED one", x.at(2, 1), 5);
        due("search for a DELETED one", ask(x, 5, false, 4), 0);
        x.settle();
        due("about a merged one", x.about(2, 1), -5);
        due("delete of a merged one", x.delete(2), false);
        add(x, 1);
        add(x, 2);
        x.delete(4);
        due("the slot of a deleted one is clean", x.add(3), 5);
        dueHeld(x, 3, 2, 0, 1);
    }

    private static void settle() {
        SegmentShelf x = new SegmentShelf();
        due("settle of nothing", x.settle(), 0);
        dueHeld(x, 0, 0, 0, 0);
        observe(x, 1, 4);
        add(x, 10, 4);
        due("settle of a buffer", x.settle(), 1);
        dueSegments(x, 3, 1, 0, 0);
        dueNews(x, 1, 0);
        due("settle again", x.settle(), 1);
        dueNews(x, 1);
        for (int price = 1; price < 8; price++) {
            add(x, price, 4, price);
        }
        x.delete(0);
        x.delete(4);
        x.delete(6);
        dueSegments(x, 3, 1, 1, 0, 0, 4, 1, 1);
        due("settle of two segments and the buffer", x.settle(), 5);
        dueSegments(x, 3, 5, 0, 1);
        dueHeld(x, 5, 0, 0, 1);
        due("about", x.about(7, 2), 0);
        due("at", x.at(7, 1), 7);
        x.delete(1);
        due("settle of one segment", x.settle(), 4);
        dueSegments(x, 3, 4, 0, 2);
        for (int number = 2; number < 8; number++) {
            x.delete(number);
        }
        due("settle of DELETED ones", x.settle(), 0);
        dueSegments(x);
        due("numbers go on", x.add(0), 8);
    }

    private static void held() {
        SegmentShelf x = new SegmentShelf();
        for (int i = 0; i < 11; i++) {
            x.add(i);
        }
        dueHeld(x, 11, 3, 0, 2);
        x.delete(0);
        x.delete(5);
        x.delete(10);
        dueHeld(x, 10, 2, 2, 2);
        for (int what : new int[] {-1, 4, Integer.MIN_VALUE, Integer.MAX_VALUE}) {
            due("held(" + what + ")", x.held(what), REFUSED);
        }
    }

    private static void segment() {
        SegmentShelf x = new SegmentShelf();
        x.add(0);
        due("the buffer is no segment", x.segment(0, 0), REFUSED);
        x.delete(0);
        for (int i = 0; i < 20; i++) {
            x.add(i);
        }
        x.delete(1);
        x.delete(14);
        x.delete(16);
        x.delete(17);
        dueSegments(x, 1, 12, 1, 1, 0, 4, 2, 13, 0, 4, 1, 17);
        for (int number : new int[] {-1, 4, Integer.MIN_VALUE, Integer.MAX_VALUE}) {
            due("segment(0, " + number + ")", x.segment(0, number), REFUSED);
            due("segment(" + number + ", 0)", x.segment(number, 0), REFUSED);
        }
    }

    private static void about() {
        SegmentShelf x = new SegmentShelf();
        add(x, 99);
        add(x, 0, 1, 1, 1, 1, 1, 1, 1, 1, 1, 1, 1, 1);
        due("price", x.about(0, 0), 99);
        due("length", x.about(0, 1), 0);
        due("in the buffer", x.about(0, 2), -1);
        due("price", x.about(1, 0), 0);
        due("length", x.about(1, 1), 12);
        x.flush();
        flushSingles(x, 1);
        due("segment", x.about(1, 2), 0);
        due("segment", x.about(2, 2), 1);
        x.delete(0);
        due("price of a DELETED one", x.about(0, 0), 99);
        due("segment of a DELETED one", x.about(0, 2), 0);
        for (int what : new int[] {-1, 3, Integer.MIN_VALUE, Integer.MAX_VALUE}) {
            due("about(1, " + what + ")", x.about(1, what), -5);
        }
        for (int number : WRONG_NUMBERS) {
            due("about(" + number + ", 0)", x.about(number, 0), -5);
        }
        due("about(3, 0)", x.about(3, 0), -5);
    }

    private static void at() {
        SegmentShelf x = new SegmentShelf();
        add(x, 1, 7, 0, 5);
        add(x, 1);
        for (int round = 0; round < 2; round++) {
            due("at", x.at(0, 0), 7);
            due("at", x.at(0, 1), 0);
            due("at", x.at(0, 2), 5);
            due("at behind the text", x.at(0, 3), REFUSED);
            due("at of an empty text", x.at(1, 0), REFUSED);
            due("at of none", x.at(2, 0), REFUSED);
            for (int number : WRONG_NUMBERS) {
                due("at(0, " + number + ")", x.at(0, number), REFUSED);
                due("at(" + number + ", 0)", x.at(number, 0), REFUSED);
            }
            x.flush();
            x.delete(0);
        }
    }

    private static void token() {
        SegmentShelf x = new SegmentShelf();
        int[] none = {-1, 13, 999, 11000, Integer.MIN_VALUE, Integer.MAX_VALUE};
        for (int t : none) {
            due("token(" + t + ")", x.token(t), REFUSED);
        }
        int[] tokens = {0, 7, AND, OR, WITHOUT, NEXT, NEAR, 1000, 10999, 10900, 1099, 3};
        for (int i = 0; i < tokens.length; i++) {
            due("token(" + tokens[i] + ")", x.token(tokens[i]), i + 1);
        }
        due("token of a full query", x.token(0), REFUSED);
        due("wrong token of a full query", x.token(13), REFUSED);
        due("search", x.search(1, false), WRONG);
        due("token of the next query", x.token(0), 1);
    }

    private static void search() {
        expressions();
        matching();
        spans();
        scores();
        orderOfHits();
    }

    private static void expressions() {
        int[][] right = {
            {0}, {7}, {1000}, {10999}, {AND, 0, 1}, {OR, 1000, 0}, {WITHOUT, 0, 1000}, {NEXT, 0, 1}, {NEAR, 0, 0},
            {NEXT, NEAR, 0, 1, NEXT, 2, 3}, {AND, OR, 0, 1, WITHOUT, 2, NEAR, 3, 4}, {OR, 0, OR, 1, OR, 2, OR, 3, 1000},
            {NEXT, 0, NEAR, 1, NEXT, 2, NEAR, 3, NEXT, 4, 5}, {OR, OR, OR, OR, OR, 0, 1, 2, 3, 4, 5}};
        int[][] bad = {
            {}, {AND}, {NEXT}, {0, 1}, {1000, 1000}, {AND, 0}, {AND, 0, 1, 2}, {0, AND, 1}, {0, 1, AND}, {NEAR, 0},
            {NEXT, 0, 1000}, {NEXT, 1000, 0}, {NEAR, AND, 0, 1, 2}, {NEAR, 2, OR, 0, 1}, {NEXT, NEXT, 0, 1000, 1},
            {NEXT, WITHOUT, 0, 1, 2}, {OR, 0, OR, 1, OR, 2, OR, 3, OR, 4, OR, 5}, {AND, NEXT, 0, AND, 1, 2, 3},
            {0, 0, 0, 0, 0, 0, 0, 0, 0, 0, 0, 0}, {OR, OR, OR, OR, OR, OR, OR, OR, OR, OR, OR, OR}};
        SegmentShelf x = new SegmentShelf();
        for (int[] tokens : right) {
            due("search of " + Arrays.toString(tokens), ask(x, 1, false, tokens), 0);
        }
        for (int[] tokens : bad) {
            due("search of " + Arrays.toString(tokens), ask(x, 1, false, tokens), WRONG);
            due("token after it", x.token(0), 1);
            due("search after it", x.search(1, false), 0);
        }
    }

    private static void matching() {
        SegmentShelf x = fourTexts();
        add(x, 20, 0, 1, 2);
        due("a word; the buffer is not searched", ask(x, 10, false, 0), 2);
        due("a word that stands nowhere", ask(x, 10, false, 7), 0);
        due("AND", ask(x, 10, false, AND, 0, 1), 1);
        due("OR", ask(x, 10, false, OR, 0, 1), 3);
        due("WITHOUT", ask(x, 10, false, WITHOUT, 0, 1), 1);
        dueHits("WITHOUT", x, 1, x.hit(0, 1));
        due("WITHOUT, the other way", ask(x, 10, false, WITHOUT, 1, 0), 1);
        dueHits("WITHOUT, the other way", x, 2, x.hit(0, 1));
        due("the whole range", ask(x, 10, true, 1099), 4);
        dueHits("the whole range", x, 0, 0, 1, 0, 2, 0, 3, 0);
        due("the range 20 .. 30", ask(x, 10, true, 3030), 2);
        dueHits("the range 20 .. 30", x, 1, 0, 2, 0);
        due("the range 21 .. 29", ask(x, 10, true, 3129), 0);
        due("the range 30 .. 20", ask(x, 10, true, 4020), 0);
        due("WITHOUT of ranges", ask(x, 10, true, WITHOUT, 1099, 3030), 2);
        dueHits("WITHOUT of ranges", x, 0, 0, 3, 0);
        x.delete(0);
        due("DELETED ones are not found", ask(x, 10, false, 0), 1);
        x.flush();
        due("the buffer was flushed", ask(x, 10, false, 0), 2);
    }

    private static void spans() {
        SegmentShelf x = new SegmentShelf();
        add(x, 1, 0, 1, 0, 2, 3, 4, 1, 0, 5, 5, 5, 6);
        x.flush();
        int[][] found = {
            {NEXT, 0, 1}, {NEXT, 1, 0}, {NEXT, 5, 5}, {NEXT, 5, 6}, {NEAR, 0, 2}, {NEAR, 1, 3}, {NEAR, 3, 0}, {NEAR, 0, 0},
            {NEXT, NEXT, 0, 1, 0}, {NEXT, 0, NEXT, 1, 0}, {NEXT, NEAR, 0, 2, 3}, {NEAR, NEXT, 0, 1, NEXT, 3, 4},
            {NEXT, NEXT, 5, 5, NEXT, 5, 6}, {NEAR, NEAR, 0, 3, NEAR, 1, 5}};
        int[][] missed = {
            {NEXT, 0, 0}, {NEXT, 1, 2}, {NEXT, 6, 0}, {NEAR, 6, 5}, {NEAR, 2, 0}, {NEAR, 2, 2}, {NEAR, 3, 3},
            {NEXT, NEXT, 5, 5, NEXT, 5, 5}, {NEAR, NEXT, 0, 1, 4}, {NEAR, NEXT, 0, 1, NEAR, 4, 1}, {NEXT, 6, 6}};
        for (int[] tokens : found) {
            due("search of " + Arrays.toString(tokens), ask(x, 1, false, tokens), 1);
        }
        for (int[] tokens : missed) {
            due("search of " + Arrays.toString(tokens), ask(x, 1, false, tokens), 0);
        }
    }

    private static void scores() {
        SegmentShelf x = new SegmentShelf();
        add(x, 1, 5, 5, 5, 5, 5, 5, 5, 5, 5, 5, 5, 5);
        x.flush();
        // One document: each word has 4 digits (8 * 2 / 2), 90 * 12 * 1 / 12 is 90.
        due("12 words", scoreOfFirst(x, 5), 4 * 220 * 12 / (1200 + 120));
        due("11 pairs", scoreOfFirst(x, NEXT, 5, 5), 8 * 220 * 11 / (1100 + 120));
        due("11 + 10 + 9 pairs", scoreOfFirst(x, NEAR, 5, 5), 8 * 220 * 30 / (3000 + 120));
        // Two steps of 1 .. 3 lead from place i to i + 2 .. i + 6, to some of them in several ways.
        due("10 + 9 + 8 + 7 + 6 pairs, each once", scoreOfFirst(x, NEAR, NEAR, 5, 5, 5), 12 * 220 * 40 / (4000 + 120));
        due("a row of six", scoreOfFirst(x, NEXT, 5, NEXT, 5, NEXT, 5, NEXT, 5, NEXT, 5, 5), 24 * 220 * 7 / (700 + 120));
        due("the same twice", scoreOfFirst(x, OR, 5, 5), 16);
        due("a word that is not there gives 0", scoreOfFirst(x, OR, 6, 5), 8);
        due("a range gives 0", scoreOfFirst(x, AND, 1099, 5), 8);
        due("the second part of WITHOUT gives 0", scoreOfFirst(x, WITHOUT, 5, AND, 6, OR, 5, 5), 8);
        due("nor does WITHOUT in it", scoreOfFirst(x, WITHOUT, 5, WITHOUT, OR, 5, 5, 5), 8);
        due("a part that does not match counts", scoreOfFirst(x, OR, AND, 5, 6, 1099), 8);
        due("so does the first part of WITHOUT", scoreOfFirst(x, OR, WITHOUT, 5, 5, 1099), 8);

        SegmentShelf y = fourTexts();
        add(y, 50, 0, 0, 0, 0, 0, 0, 0, 0, 0, 0, 0, 0);
        // N 4, LENGTH 5: the word 2 has 40 / 2 = 20, 5 digits; 90 * 2 * 4 / 5 is 144.
        due("a rare word", scoreOfFirst(y, 2), 5 * 220 / (130 + 144));
        due("a word that is less rare", scoreOfFirst(y, 0), 4 * 220 / (130 + 144));
        y.flush();
        y.delete(4);
        // N 5, LENGTH 17, DF(2) 1, DELETED ones counted: 48 / 2 = 24, 5 digits; 90 * 2 * 5 / 17 is 52.
        due("with a DELETED one", scoreOfFirst(y, 2), 5 * 220 / (130 + 52));
        due("with a DELETED one that has the word", scoreOfFirst(y, 0), 4 * 220 / (130 + 52));
        y.settle();
        due("when it is gone", scoreOfFirst(y, 2), 5 * 220 / (130 + 144));
        due("by price the scores are the same", ask(y, 1, true, 2), 1);
        dueHits("by price", y, 1, 4);

        SegmentShelf z = new SegmentShelf();
        add(z, 1);
        add(z, 2);
        z.flush();
        due("documents without words", ask(z, 10, false, 1099), 2);
        dueHits("documents without words", z, 0, 0, 1, 0);
    }

    private static void orderOfHits() {
        SegmentShelf x = new SegmentShelf();
        add(x, 50, 0, 1);
        add(x, 30, 0, 0);
        add(x, 50, 0, 2);
        add(x, 30, 0, 0);
        add(x, 99, 0, 0, 0);
        x.flush();
        // N 5, LENGTH 11, R 4: 90 * 2 * 5 / 11 is 81, 90 * 3 * 5 / 11 is 122.
        int one = 880 / 211, two = 1760 / 311, three = 2640 / 452;
        due("by score", ask(x, 10, false, 0), 5);
        dueHits("by score", x, 1, two, 3, two, 4, three, 0, one, 2, one);
        due("by price", ask(x, 10, true, 0), 5);
        dueHits("by price", x, 1, two, 3, two, 0, one, 2, one, 4, three);
        due("limit 2 by price", ask(x, 2, true, 0), 5);
        dueHits("limit 2 by price", x, 1, two, 3, two);
        due("limit 4 by score", ask(x, 4, false, 0), 5);
        dueHits("limit 4 by score", x, 1, two, 3, two, 4, three, 0, one);
        due("limit 0", ask(x, 0, false, 0), 5);
        dueHits("limit 0", x);
        for (int i = 0; i < 15; i++) {
            add(x, 20 - i, 3);
        }
        x.flush();
        due("more than ten", ask(x, 10, true, 3), 15);
        for (int k = 0; k < 10; k++) {
            due("hit(" + k + ", 0)", x.hit(k, 0), 19 - k);
        }
        due("hit(10, 0)", x.hit(10, 0), REFUSED);
    }

    private static void like() {
        SegmentShelf x = fourTexts();
        add(x, 50, 1, 0, 1);
        x.token(2);
        due("like", x.like(0, 10), 2);
        // N 4, LENGTH 5, DF(0) 2, DF(1) 2: 40 / 3 = 13, 4 digits.
        dueHits("like", x, 2, 880 / (130 + 72), 1, 880 / (130 + 144));
        due("like of one in the buffer", x.like(4, 10), 3);
        dueHits("like of one in the buffer", x, 0, 6, 2, 4, 1, 3);
        due("share", x.share(1), 1);
        due("with a limit", x.like(4, 1), 3);
        dueHits("with a limit", x, 0, 6);
        due("with limit 0", x.like(4, 0), 3);
        dueHits("with limit 0", x);
        x.like(4, 2);
        due("like of an empty text", x.like(3, 10), REFUSED);
        due("like of none", x.like(5, 10), REFUSED);
        due("limit 11", x.like(0, 11), REFUSED);
        due("limit -1", x.like(0, -1), REFUSED);
        for (int number : WRONG_NUMBERS) {
            due("like(" + number + ", 1)", x.like(number, 1), REFUSED);
        }
        dueHits("what was kept stays", x, 0, 6, 2, 4);
        due("the pending query stays", x.search(10, false), 1);
        dueHits("the pending query", x, 1, 4);
        x.delete(0);
        due("like of a DELETED one", x.like(0, 10), 2);
        x.settle();
        due("like of one that is gone", x.like(0, 10), REFUSED);

        SegmentShelf y = new SegmentShelf();
        add(y, 5, 7, 6, 5, 4, 3, 2, 1, 0, 7, 6, 5, 4);
        for (int w = 0; w < 8; w++) {
            add(y, w, w);
        }
        add(y, 9, 0, 1, 2, 3, 4, 5, 6, 7);
        y.flush();
        due("like of all eight words", y.like(0, 1), 9);
        // N 10, LENGTH 28, DF 3: 88 / 4 = 22, 5 digits; 90 * 8 * 10 / 28 is 257.
        dueHits("like of all eight words", y, 9, 8 * (5 * 220 / (130 + 257)));
    }

    private static void hit() {
        SegmentShelf x = fourTexts();
        due("hit before a search", x.hit(0, 0), REFUSED);
        ask(x, 10, false, OR, 0, 1);
        due("hit(2, 0)", x.hit(2, 0), 1);
        due("hit(2, 1)", x.hit(2, 1), 3);
        for (int number : new int[] {-1, 3, Integer.MIN_VALUE, Integer.MAX_VALUE}) {
            due("hit(" + number + ", 0)", x.hit(number, 0), REFUSED);
            due("hit(0, " + number + ")", x.hit(0, number), REFUSED);
        }
        due("hit(0, 2)", x.hit(0, 2), REFUSED);
        x.delete(1);
        x.settle();
        x.token(0);
        dueHits("hits stay as they were then", x, 0, 6, 2, 4, 1, 3);
        x.search(10, false);
        // N 3, LENGTH 3, DF(0) 1: 32 / 2 = 16, 5 digits; 90 * 2 * 3 / 3 is 180.
        dueHits("the next search", x, 0, 5 * 220 / (130 + 180));
        due("a search without hits", ask(x, 10, false, 7), 0);
        dueHits("a search without hits", x);
    }

    private static void share() {
        SegmentShelf x = new SegmentShelf();
        int[] prices = {0, 9, 10, 19, 20, 55, 55, 89, 90, 99};
        for (int price : prices) {
            add(x, price, 1, price % 2);
        }
        dueShares("before", x, 0, 0, 0, 0, 0, 0, 0, 0, 0, 0);
        x.flush();
        ask(x, 1, false, 1);
        dueShares("all", x, 2, 2, 1, 0, 0, 2, 0, 0, 1, 2);
        x.token(0);
        x.search(11, false);
        dueShares("after REFUSED", x, 2, 2, 1, 0, 0, 2, 0, 0, 1, 2);
        x.token(0);
        x.search(10, false);
        dueShares("after WRONG", x, 2, 2, 1, 0, 0, 2, 0, 0, 1, 2);
        x.like(0, 11);
        x.delete(0);
        dueShares("after like REFUSED and delete", x, 2, 2, 1, 0, 0, 2, 0, 0, 1, 2);
        ask(x, 0, true, 0);
        dueShares("of limit 0", x, 0, 1, 1, 0, 0, 0, 0, 0, 0, 1);
        x.like(2, 0);
        dueShares("of like", x, 1, 1, 1, 0, 0, 2, 0, 0, 1, 2);
        ask(x, 10, true, 7);
        dueShares("of no hits", x, 0, 0, 0, 0, 0, 0, 0, 0, 0, 0);
        for (int k : new int[] {-1, 10, Integer.MIN_VALUE, Integer.MAX_VALUE}) {
            due("share(" + k + ")", x.share(k), REFUSED);
        }
    }

    private static void watch() {
        SegmentShelf x = new SegmentShelf();
        due("watch(0)", observe(x, 0, 1), 1);
        due("the query is empty then", x.token(1), 1);
        due("watch(3)", observe(x, 3, 1000), WRONG);
        due("watch of twelve tokens that are wrong",
            observe(x, 3, OR, 0, OR, 1, OR, 2, OR, 3, OR, 4, OR, 5), WRONG);
        due("watch of eleven tokens", observe(x, 3, OR, 0, OR, 1, OR, 2, OR, 3, OR, 4, 5), 11);
        for (int w : new int[] {-1, 4, Integer.MIN_VALUE, Integer.MAX_VALUE}) {
            due("watch(" + w + ")", x.watch(w), REFUSED);
        }
        add(x, 1, 1);
        add(x, 2, 5);
        add(x, 3, 6);
        x.next(0);
        dueNews(x, 0);
        due("a watch that comes before the flush", observe(x, 1, AND, 1000 + 299, WITHOUT, 1099, 5), 5);
        x.flush();
        due("a watch that is WRONG", observe(x, 0, 1, 1), WRONG);
        dueNews(x, 0, 0);
        dueNews(x, 1, 2);
        add(x, 1, 1);
        x.flush();
        due("a new watch has no news", observe(x, 3, 1), 1);
        dueNews(x, 3);
        due("an empty watch", x.watch(0), 0);
        dueNews(x, 0);
        add(x, 1, 1);
        x.flush();
        dueNews(x, 0);
        dueNews(x, 3, 4);
    }

    private static void next() {
        SegmentShelf x = new SegmentShelf();
        for (int w : new int[] {0, 3, -1, 4, Integer.MIN_VALUE, Integer.MAX_VALUE}) {
            due("next(" + w + ")", x.next(w), REFUSED);
        }
        observe(x, 0, 0);
        observe(x, 2, NEAR, 0, 1);
        for (int i = 0; i < 4; i++) {
            add(x, i, 0, i % 2);
        }
        dueNews(x, 2, 1, 3);
        due("next(0)", x.next(0), 0);
        for (int i = 4; i < 8; i++) {
            add(x, i, 0, i % 2);
        }
        // Seven wait; the first flush of the next round brings the eighth and the ninth.
        add(x, 8, 0);
        add(x, 9, 0);
        x.delete(2);
        x.delete(3);
        x.flush();
        dueNews(x, 0, 2, 3, 4, 5, 6, 7, 8, 9);
        dueNews(x, 2, 5, 7);
        for (int i = 0; i < 12; i++) {
            add(x, 1, 0);
        }
        dueNews(x, 0, 14, 15, 16, 17, 18, 19, 20, 21);
        add(x, 1, 0);
        add(x, 1, 0);
        x.delete(22);
        x.settle();
        dueNews(x, 0, 23);
        x.settle();
        dueNews(x, 0);
        dueNews(x, 2);
    }

    private static void orderAndLimits() {
        SegmentShelf x = new SegmentShelf();
        for (int i = 0; i < 32; i++) {
            add(x, 5, 3);
        }
        x.word(1);
        x.word(2);
        due("add REFUSED before FULL", x.add(100), REFUSED);
        due("add REFUSED before FULL", x.add(-1), REFUSED);
        due("add FULL", x.add(99), FULL);
        due("the text stays", x.word(3), 3);
        ask(x, 3, true, 3);
        x.token(4);
        due("search REFUSED", x.search(11, false), REFUSED);
        due("search REFUSED", x.search(-1, true), REFUSED);
        due("watch REFUSED", x.watch(4), REFUSED);
        due("like REFUSED", x.like(99, 1), REFUSED);
        due("the query stays", x.token(5), 2);
        due("search REFUSED before WRONG", x.search(11, false), REFUSED);
        due("watch REFUSED before WRONG", x.watch(-1), REFUSED);
        due("the query stays", x.token(6), 3);
        dueHits("hits stay", x, 0, 4, 1, 4, 2, 4);
        due("shares stay", x.share(0), 32);
        due("search WRONG", x.search(10, false), WRONG);
        due("the query is empty then", x.token(5), 1);
        x.token(5);
        due("watch WRONG", x.watch(0), WRONG);
        due("the query is empty then", x.token(3), 1);
        dueHits("hits stay", x, 0, 4, 1, 4, 2, 4);
        due("like", x.like(31, 1), 31);
        due("the query stays", x.search(1, false), 32);
        due("limits 0 and 10", ask(x, 0, false, 3), 32);
        due("limits 0 and 10", ask(x, 10, false, 3), 32);
        x.delete(7);
        x.settle();
        due("add", x.add(99), 32);
        due("the text stayed", x.about(32, 1), 3);
    }
}
