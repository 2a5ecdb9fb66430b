/** What the tests share: answers that are due, and short ways to fill, ask and look at a shelf. */
abstract class Checks {
    static final int AND = 8, OR = 9, WITHOUT = 10, NEXT = 11, NEAR = 12;
    static final int REFUSED = SegmentShelf.REFUSED, FULL = SegmentShelf.FULL, WRONG = SegmentShelf.WRONG;
    /** The answer of about for what is not held. */
    static final int NOT_KNOWN = -5;
    static final int[] WRONG_NUMBERS = {-1, Integer.MIN_VALUE, Integer.MAX_VALUE};

    private static String place = "";
    private static int wrong;

    /** What is tested from here on, told with each answer that is not as due. */
    static void testing(String told) {
        place = told;
    }

    /** Ends a test with exit code 1 if one answer was not as due. */
    static void conclude(String allRight) {
        System.out.println(wrong == 0 ? allRight : wrong + " answers are not as due");
        if (wrong != 0) {
            System.exit(1);
        }
    }

    static void due(String call, long got, long want) {
        if (got != want) {
            wrong++;
            System.out.println(place + ": " + call + " answered " + got + ", due is " + want);
        }
    }

    static void due(String call, boolean got, boolean want) {
        due(call, got ? 1 : 0, want ? 1 : 0);
    }

    static int add(SegmentShelf x, int price, int... words) {
        for (int w : words) {
            x.word(w);
        }
        return x.add(price);
    }

    static int ask(SegmentShelf x, int limit, boolean byPrice, int... tokens) {
        for (int t : tokens) {
            x.token(t);
        }
        return x.search(limit, byPrice);
    }

    static int observe(SegmentShelf x, int w, int... tokens) {
        for (int t : tokens) {
            x.token(t);
        }
        return x.watch(w);
    }

    static int range(int low, int high) {
        return 1000 + 100 * low + high;
    }

    /** The score of the best hit, REFUSED if there is none. */
    static int scoreOfFirst(SegmentShelf x, int... tokens) {
        ask(x, 1, false, tokens);
        return x.hit(0, 1);
    }

    /** The numbers and scores that are kept must be just these pairs, in this order. */
    static void dueHits(String call, SegmentShelf x, int... pairs) {
        for (int k = 0; k < pairs.length / 2; k++) {
            due(call + " hit(" + k + ", 0)", x.hit(k, 0), pairs[2 * k]);
            due(call + " hit(" + k + ", 1)", x.hit(k, 1), pairs[2 * k + 1]);
        }
        due(call + " hit behind the last", x.hit(pairs.length / 2, 0), REFUSED);
    }

    /** The numbers that are kept must be just these, in this order. */
    static void dueFound(String call, SegmentShelf x, int... numbers) {
        for (int k = 0; k < numbers.length; k++) {
            due(call + " hit(" + k + ", 0)", x.hit(k, 0), numbers[k]);
        }
        due(call + " hit behind the last", x.hit(numbers.length, 0), REFUSED);
    }

    static void dueShares(String call, SegmentShelf x, int... shares) {
        for (int k = 0; k < 10; k++) {
            due(call + " share(" + k + ")", x.share(k), shares[k]);
        }
    }

    static void dueNews(SegmentShelf x, int w, int... numbers) {
        for (int number : numbers) {
            due("next(" + w + ")", x.next(w), number);
        }
        due("next(" + w + ") behind the last", x.next(w), REFUSED);
    }

    /** Each segment as level, how many documents, how many DELETED, lowest number. */
    static void dueSegments(SegmentShelf x, int... fours) {
        due("held(3)", x.held(3), fours.length / 4);
        for (int i = 0; i < fours.length; i++) {
            due("segment(" + i / 4 + ", " + i % 4 + ")", x.segment(i / 4, i % 4), fours[i]);
        }
        due("segment behind the last", x.segment(fours.length / 4, 0), REFUSED);
    }

    static void dueHeld(SegmentShelf x, int all, int buffered, int deleted, int segments) {
        due("held(0)", x.held(0), all);
        due("held(1)", x.held(1), buffered);
        due("held(2)", x.held(2), deleted);
        due("held(3)", x.held(3), segments);
    }

    static void dueText(SegmentShelf x, int number, int... words) {
        due("length of " + number, x.about(number, 1), words.length);
        for (int i = 0; i < words.length; i++) {
            due("at(" + number + ", " + i + ")", x.at(number, i), words[i]);
        }
        due("at(" + number + ") behind the last", x.at(number, words.length), REFUSED);
    }

    /** Puts single documents without words away, each in a segment of its own before merging. */
    static void flushSingles(SegmentShelf x, int count) {
        for (int i = 0; i < count; i++) {
            x.add(0);
            x.flush();
        }
    }

    /** One segment with the texts 0 1, 0 2, 1 and none, at prices 10, 20, 30 and 40. */
    static SegmentShelf fourTexts() {
        SegmentShelf x = new SegmentShelf();
        add(x, 10, 0, 1);
        add(x, 20, 0, 2);
        add(x, 30, 1);
        add(x, 40);
        return x;
    }
}
