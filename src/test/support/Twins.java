import java.util.ArrayList;
import java.util.List;
import java.util.function.Consumer;
import java.util.function.Function;
import java.util.function.ToIntFunction;

/**
 * Shows that a call leaves a shelf as it was: of two shelves with the same past only one gets the
 * call, and then all that can be seen of them must be alike. Some looks change what they look at, and
 * no shelf may get more than 512 calls, so each look has two shelves of its own.
 */
abstract class Twins extends Checks {
    private static final List<Function<SegmentShelf, List<Integer>>> LOOKS = List.of(
        Twins::places, Twins::wordsInFront, Twins::wordsBehind, Twins::found, Twins::pendingText,
        Twins::pendingQueryLength, Twins::pendingQuery, Twins::newsAndWatches);
    private static final int NUMBERS = 40;

    /** The call must answer this and leave the shelf as its past made it. */
    static void leavesAll(String call, Consumer<SegmentShelf> past, ToIntFunction<SegmentShelf> made, int want) {
        leavesAs(call, past, made, want, past);
    }

    /** The call must answer this and leave the shelf as the other past would have made it. */
    static void leavesAs(String call, Consumer<SegmentShelf> past, ToIntFunction<SegmentShelf> made, int want,
        Consumer<SegmentShelf> otherPast) {
        for (int i = 0; i < LOOKS.size(); i++) {
            SegmentShelf x = new SegmentShelf();
            SegmentShelf y = new SegmentShelf();
            past.accept(x);
            otherPast.accept(y);
            due(call, made.applyAsInt(x), want);
            List<Integer> got = LOOKS.get(i).apply(x);
            List<Integer> right = LOOKS.get(i).apply(y);
            due(call + " left look " + i + " with " + got + ", not " + right + ": alike", got.equals(right), true);
        }
    }

    /** Two segments, the second of one document; 1 DELETED; two in the buffer; a bit of all the rest. */
    static void busy(SegmentShelf x) {
        busyWithoutQuery(x);
        x.token(NEXT);
        x.token(0);
        x.token(1);
    }

    static void busyWithoutQuery(SegmentShelf x) {
        observe(x, 0, OR, 2, 5);
        observe(x, 2, range(0, 99));
        add(x, 10, 0, 1);
        add(x, 20, 0, 2);
        add(x, 30, 1);
        add(x, 40);
        add(x, 50, 2, 2);
        x.flush();
        x.delete(1);
        add(x, 60, 5);
        add(x, 70);
        ask(x, 2, true, OR, 0, 1);
        x.word(3);
        x.word(1);
    }

    /** 32 documents are held, two of them DELETED; three are in the buffer. */
    static void full(SegmentShelf x) {
        observe(x, 1, 4);
        for (int i = 0; i < 28; i++) {
            add(x, i, i % 8);
        }
        add(x, 28, 4);
        x.flush();
        for (int i = 29; i < 32; i++) {
            add(x, i, 4);
        }
        x.delete(2);
        x.delete(28);
        ask(x, 3, false, 4);
        x.word(6);
        x.word(4);
        x.token(5);
    }

    private static List<Integer> places(SegmentShelf x) {
        List<Integer> seen = new ArrayList<>();
        for (int what = 0; what < 4; what++) {
            seen.add(x.held(what));
            for (int k = 0; k < 8; k++) {
                seen.add(x.segment(k, what));
            }
        }
        for (int number = 0; number < NUMBERS; number++) {
            for (int what = 0; what < 3; what++) {
                seen.add(x.about(number, what));
            }
        }
        return seen;
    }

    private static List<Integer> words(SegmentShelf x, int first, int behind) {
        List<Integer> seen = new ArrayList<>();
        for (int number = 0; number < NUMBERS; number++) {
            for (int i = first; i < behind; i++) {
                seen.add(x.at(number, i));
            }
        }
        return seen;
    }

    private static List<Integer> wordsInFront(SegmentShelf x) {
        return words(x, 0, 7);
    }

    private static List<Integer> wordsBehind(SegmentShelf x) {
        return words(x, 7, 13);
    }

    private static List<Integer> found(SegmentShelf x) {
        List<Integer> seen = new ArrayList<>();
        for (int k = 0; k < 11; k++) {
            seen.add(x.hit(k, 0));
            seen.add(x.hit(k, 1));
            seen.add(x.share(k));
        }
        return seen;
    }

    private static List<Integer> pendingText(SegmentShelf x) {
        List<Integer> seen = new ArrayList<>();
        for (int i = 0; i < 13; i++) {
            seen.add(x.word(7));
        }
        for (int number = 0; number < 4; number++) {
            seen.add(x.delete(number) ? 1 : 0);
        }
        seen.add(x.settle());
        int added = x.add(1);
        seen.add(added);
        for (int i = 0; i < 13; i++) {
            seen.add(x.at(added, i));
        }
        return seen;
    }

    private static List<Integer> pendingQueryLength(SegmentShelf x) {
        List<Integer> seen = new ArrayList<>();
        for (int i = 0; i < 13; i++) {
            seen.add(x.token(0));
        }
        return seen;
    }

    private static List<Integer> pendingQuery(SegmentShelf x) {
        List<Integer> seen = new ArrayList<>();
        seen.add(x.search(10, false));
        seen.addAll(found(x));
        return seen;
    }

    private static void takeNews(SegmentShelf x, List<Integer> seen) {
        for (int w = 0; w < 4; w++) {
            for (int i = 0; i < 9; i++) {
                seen.add(x.next(w));
            }
        }
    }

    /** The news that wait, and then what each watch makes of texts that all differ. */
    private static List<Integer> newsAndWatches(SegmentShelf x) {
        List<Integer> seen = new ArrayList<>();
        takeNews(x, seen);
        for (int number = 0; number < 16; number++) {
            x.delete(number);
        }
        x.settle();
        x.add(1);
        for (int w = 0; w < 8; w++) {
            seen.add(add(x, 10 * w, w));
        }
        x.flush();
        takeNews(x, seen);
        return seen;
    }
}
