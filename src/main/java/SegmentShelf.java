/**
 * A library of short texts that are added, deleted and searched.
 *
 * All held documents stand in one row of slots, in the order of their numbers. Merging only ever
 * joins the last segments, so the segments follow each other in this row and the buffer ends it.
 */
public final class SegmentShelf {
    public static final int REFUSED = -1, FULL = -2, WRONG = -3;

    private static final int NOT_KNOWN = -5;

    private static final int WORDS = 8;
    private static final int PRICES = 100;
    private static final int PRICES_IN_SHARE = 10;
    private static final int SHARES = 10;

    private static final int TEXT_ROOM = 12;
    private static final int SLOTS = 32;
    private static final int ALL_TEXTS_ROOM = SLOTS * TEXT_ROOM;
    private static final int BUFFER_ROOM = 4;
    private static final int MERGED_AT_ONCE = 3;
    private static final int TOP_LEVEL = 3;

    private static final int AND = 8;
    private static final int OR = 9;
    private static final int WITHOUT = 10;
    private static final int NEXT = 11;
    private static final int NEAR = 12;
    private static final int FIRST_RANGE = 1000;
    private static final int LAST_RANGE = 10999;
    private static final int NEXT_REACH = 1;
    private static final int NEAR_REACH = 3;

    private static final int QUERY_ROOM = 12;
    // Eight words joined by OR need seven tokens more, so a query of like can be longer than others.
    private static final int LIKE_ROOM = 15;
    private static final int PARTS = LIKE_ROOM;
    private static final int ALL_SPANS_ROOM = PARTS * TEXT_ROOM;

    private static final int WATCHES = 4;
    private static final int ALL_WATCHES_ROOM = WATCHES * QUERY_ROOM;
    private static final int NEWS_ROOM = 8;
    private static final int ALL_NEWS_ROOM = WATCHES * NEWS_ROOM;
    private static final int HIT_ROOM = 10;

    private static final int NO_SLOT = -1;
    private static final int IN_BUFFER = -1;
    private static final int NO_MATCH = -1;

    private final int[] docNumber = new int[SLOTS];
    private final int[] docPrice = new int[SLOTS];
    private final int[] docLength = new int[SLOTS];
    private final int[] docText = new int[ALL_TEXTS_ROOM];
    private final int[] docSegment = new int[SLOTS];
    private final boolean[] docDeleted = new boolean[SLOTS];
    private int docCount;
    private int nextNumber;

    private final int[] segmentLevel = new int[SLOTS];
    private int segmentCount;

    private final int[] pendingText = new int[TEXT_ROOM];
    private int pendingTextLength;
    private final int[] pendingQuery = new int[QUERY_ROOM];
    private int pendingQueryLength;
    private final int[] likeQuery = new int[LIKE_ROOM];

    private final boolean[] partIsSpans = new boolean[PARTS];
    private final boolean[] partMatches = new boolean[PARTS];
    private final int[] partScore = new int[PARTS];
    private final int[] partWeight = new int[PARTS];
    // For each part and each place where a span can begin, one bit for each place where it ends:
    // so a pair counts once, however often it is found.
    private final int[] partSpans = new int[ALL_SPANS_ROOM];

    private final int[] wordWeight = new int[WORDS];
    private int storedCount;
    private int storedLength;

    private final int[] hitNumber = new int[HIT_ROOM];
    private final int[] hitScore = new int[HIT_ROOM];
    private final int[] hitRank = new int[HIT_ROOM];
    private int hitCount;
    private final int[] shareCount = new int[SHARES];

    private final int[] watchQuery = new int[ALL_WATCHES_ROOM];
    private final int[] watchLength = new int[WATCHES];
    private final int[] newsNumber = new int[ALL_NEWS_ROOM];
    private final int[] newsCount = new int[WATCHES];

    public SegmentShelf() {
    }

    public int word(int w) {
        if (!isWord(w) || pendingTextLength >= TEXT_ROOM) {
            return REFUSED;
        }
        pendingText[pendingTextLength] = w;
        pendingTextLength++;
        return pendingTextLength;
    }

    public int add(int price) {
        if (price < 0 || price >= PRICES) {
            return REFUSED;
        }
        if (docCount >= SLOTS) {
            return FULL;
        }
        int number = nextNumber;
        nextNumber++;
        appendDocument(number, price);
        pendingTextLength = 0;
        if (countIn(IN_BUFFER) >= BUFFER_ROOM) {
            flushBuffer();
        }
        return number;
    }

    public int flush() {
        flushBuffer();
        return segmentCount;
    }

    public boolean delete(int number) {
        int slot = slotOf(number);
        if (slot == NO_SLOT || docDeleted[slot]) {
            return false;
        }
        if (docSegment[slot] == IN_BUFFER) {
            removeSlot(slot);
        } else {
            docDeleted[slot] = true;
        }
        return true;
    }

    public int settle() {
        flushBuffer();
        joinSegments(0, TOP_LEVEL);
        return docCount;
    }

    public int held(int what) {
        switch (what) {
            case 0:
                return docCount;
            case 1:
                return countIn(IN_BUFFER);
            case 2:
                return countAllDeleted();
            case 3:
                return segmentCount;
            default:
                return REFUSED;
        }
    }

    public int segment(int k, int what) {
        if (k < 0 || k >= segmentCount) {
            return REFUSED;
        }
        switch (what) {
            case 0:
                return segmentLevel[k];
            case 1:
                return countIn(k);
            case 2:
                return countDeletedIn(k);
            case 3:
                return lowestNumberIn(k);
            default:
                return REFUSED;
        }
    }

    public int about(int number, int what) {
        int slot = slotOf(number);
        if (slot == NO_SLOT) {
            return NOT_KNOWN;
        }
        switch (what) {
            case 0:
                return docPrice[slot];
            case 1:
                return docLength[slot];
            case 2:
                return docSegment[slot];
            default:
                return NOT_KNOWN;
        }
    }

    public int at(int number, int i) {
        int slot = slotOf(number);
        if (slot == NO_SLOT || i < 0 || i >= docLength[slot]) {
            return REFUSED;
        }
        return docText[slot * TEXT_ROOM + i];
    }

    public int token(int t) {
        boolean known = isWord(t) || isJoin(t) || isRange(t);
        if (!known || pendingQueryLength >= QUERY_ROOM) {
            return REFUSED;
        }
        pendingQuery[pendingQueryLength] = t;
        pendingQueryLength++;
        return pendingQueryLength;
    }

    public int search(int limit, boolean byPrice) {
        if (!isLimit(limit)) {
            return REFUSED;
        }
        int length = pendingQueryLength;
        boolean right = pendingIsExpression();
        pendingQueryLength = 0;
        if (!right) {
            return WRONG;
        }
        return find(pendingQuery, length, limit, byPrice, NO_SLOT);
    }

    public int like(int number, int limit) {
        int slot = slotOf(number);
        if (slot == NO_SLOT || docLength[slot] == 0 || !isLimit(limit)) {
            return REFUSED;
        }
        int length = fillLikeQuery(slot);
        return find(likeQuery, length, limit, false, slot);
    }

    public int hit(int k, int what) {
        if (k < 0 || k >= hitCount) {
            return REFUSED;
        }
        switch (what) {
            case 0:
                return hitNumber[k];
            case 1:
                return hitScore[k];
            default:
                return REFUSED;
        }
    }

    public int share(int k) {
        if (k < 0 || k >= SHARES) {
            return REFUSED;
        }
        return shareCount[k];
    }

    public int watch(int w) {
        if (!isWatch(w)) {
            return REFUSED;
        }
        int length = pendingQueryLength;
        boolean right = length == 0 || pendingIsExpression();
        pendingQueryLength = 0;
        if (!right) {
            return WRONG;
        }
        for (int i = 0; i < length; i++) {
            watchQuery[w * QUERY_ROOM + i] = pendingQuery[i];
        }
        watchLength[w] = length;
        newsCount[w] = 0;
        return length;
    }

    public int next(int w) {
        if (!isWatch(w) || newsCount[w] == 0) {
            return REFUSED;
        }
        int number = newsNumber[w * NEWS_ROOM];
        dropFirstNews(w);
        return number;
    }

    private static boolean isWord(int t) {
        return t >= 0 && t < WORDS;
    }

    private static boolean isJoin(int t) {
        return t >= AND && t <= NEAR;
    }

    private static boolean isSpanJoin(int t) {
        return t == NEXT || t == NEAR;
    }

    private static boolean isRange(int t) {
        return t >= FIRST_RANGE && t <= LAST_RANGE;
    }

    private static boolean isLimit(int limit) {
        return limit >= 0 && limit <= HIT_ROOM;
    }

    private static boolean isWatch(int w) {
        return w >= 0 && w < WATCHES;
    }

    private int slotOf(int number) {
        for (int slot = 0; slot < docCount; slot++) {
            if (docNumber[slot] == number) {
                return slot;
            }
        }
        return NO_SLOT;
    }

    private int countIn(int segment) {
        int count = 0;
        for (int slot = 0; slot < docCount; slot++) {
            if (docSegment[slot] == segment) {
                count++;
            }
        }
        return count;
    }

    private int countDeletedIn(int segment) {
        int count = 0;
        for (int slot = 0; slot < docCount; slot++) {
            if (docSegment[slot] == segment && docDeleted[slot]) {
                count++;
            }
        }
        return count;
    }

    private int countAllDeleted() {
        int count = 0;
        for (int slot = 0; slot < docCount; slot++) {
            if (docDeleted[slot]) {
                count++;
            }
        }
        return count;
    }

    private int lowestNumberIn(int segment) {
        for (int slot = 0; slot < docCount; slot++) {
            if (docSegment[slot] == segment) {
                return docNumber[slot];
            }
        }
        return REFUSED;
    }

    private boolean hasWord(int slot, int w) {
        for (int i = 0; i < docLength[slot]; i++) {
            if (docText[slot * TEXT_ROOM + i] == w) {
                return true;
            }
        }
        return false;
    }

    private void appendDocument(int number, int price) {
        int slot = docCount;
        docCount++;
        docNumber[slot] = number;
        docPrice[slot] = price;
        docLength[slot] = pendingTextLength;
        docSegment[slot] = IN_BUFFER;
        docDeleted[slot] = false;
        for (int i = 0; i < pendingTextLength; i++) {
            docText[slot * TEXT_ROOM + i] = pendingText[i];
        }
    }

    private void moveDocument(int from, int to) {
        docNumber[to] = docNumber[from];
        docPrice[to] = docPrice[from];
        docLength[to] = docLength[from];
        docSegment[to] = docSegment[from];
        docDeleted[to] = docDeleted[from];
        for (int i = 0; i < TEXT_ROOM; i++) {
            docText[to * TEXT_ROOM + i] = docText[from * TEXT_ROOM + i];
        }
    }

    private void removeSlot(int gone) {
        for (int slot = gone + 1; slot < docCount; slot++) {
            moveDocument(slot, slot - 1);
        }
        docCount--;
    }

    private void flushBuffer() {
        int bufferCount = countIn(IN_BUFFER);
        if (bufferCount == 0) {
            return;
        }
        // There is room: each segment has a document, and those in the buffer are in none of them.
        int added = segmentCount;
        segmentCount++;
        segmentLevel[added] = 0;
        int first = docCount - bufferCount;
        for (int slot = first; slot < docCount; slot++) {
            docSegment[slot] = added;
        }
        tellWatches(first);
        mergeSegments();
    }

    private void mergeSegments() {
        // Each round leaves fewer segments, so there cannot be more rounds than segments.
        for (int round = 0; round < SLOTS && lastSegmentsAreAlike(); round++) {
            int first = segmentCount - MERGED_AT_ONCE;
            joinSegments(first, segmentLevel[first] + 1);
        }
    }

    private boolean lastSegmentsAreAlike() {
        int first = segmentCount - MERGED_AT_ONCE;
        if (first < 0 || segmentLevel[first] >= TOP_LEVEL) {
            return false;
        }
        for (int k = first + 1; k < segmentCount; k++) {
            if (segmentLevel[k] != segmentLevel[first]) {
                return false;
            }
        }
        return true;
    }

    private void joinSegments(int first, int level) {
        int kept = 0;
        int joined = 0;
        for (int slot = 0; slot < docCount; slot++) {
            boolean inside = docSegment[slot] >= first;
            if (inside && docDeleted[slot]) {
                continue;
            }
            moveDocument(slot, kept);
            if (inside) {
                docSegment[kept] = first;
                joined++;
            }
            kept++;
        }
        docCount = kept;
        segmentCount = first;
        if (joined > 0) {
            segmentLevel[first] = level;
            segmentCount++;
        }
    }

    private void tellWatches(int firstSlot) {
        weighWords();
        for (int slot = firstSlot; slot < docCount; slot++) {
            for (int w = 0; w < WATCHES; w++) {
                if (watchLength[w] == 0) {
                    continue;
                }
                int score = judge(watchQuery, w * QUERY_ROOM, watchLength[w], slot);
                if (score != NO_MATCH) {
                    appendNews(w, docNumber[slot]);
                }
            }
        }
    }

    private void appendNews(int w, int number) {
        if (newsCount[w] >= NEWS_ROOM) {
            dropFirstNews(w);
        }
        newsNumber[w * NEWS_ROOM + newsCount[w]] = number;
        newsCount[w]++;
    }

    private void dropFirstNews(int w) {
        int base = w * NEWS_ROOM;
        for (int i = 1; i < newsCount[w]; i++) {
            newsNumber[base + i - 1] = newsNumber[base + i];
        }
        newsCount[w]--;
    }

    private void weighWords() {
        storedCount = 0;
        storedLength = 0;
        for (int slot = 0; slot < docCount; slot++) {
            if (docSegment[slot] != IN_BUFFER) {
                storedCount++;
                storedLength += docLength[slot];
            }
        }
        for (int w = 0; w < WORDS; w++) {
            int having = countStoredWith(w);
            wordWeight[w] = binaryDigits(8 * (storedCount + 1) / (having + 1));
        }
    }

    private int countStoredWith(int w) {
        int having = 0;
        for (int slot = 0; slot < docCount; slot++) {
            if (docSegment[slot] != IN_BUFFER && hasWord(slot, w)) {
                having++;
            }
        }
        return having;
    }

    private static int binaryDigits(int value) {
        int digits = 0;
        for (int d = 0; d < 31; d++) {
            if (value >> d > 0) {
                digits = d + 1;
            }
        }
        return digits;
    }

    // A prefix list is read from its end: then both parts of a join are complete when it comes,
    // the first part on top of the second.
    private boolean pendingIsExpression() {
        int depth = 0;
        for (int i = pendingQueryLength - 1; i >= 0; i--) {
            int t = pendingQuery[i];
            if (!isJoin(t)) {
                partIsSpans[depth] = isWord(t);
                depth++;
                continue;
            }
            if (depth < 2) {
                return false;
            }
            depth--;
            boolean bothSpans = partIsSpans[depth] && partIsSpans[depth - 1];
            if (isSpanJoin(t) && !bothSpans) {
                return false;
            }
            partIsSpans[depth - 1] = isSpanJoin(t);
        }
        return depth == 1;
    }

    private int fillLikeQuery(int slot) {
        int length = 0;
        int joins = -1;
        for (int w = 0; w < WORDS; w++) {
            if (hasWord(slot, w)) {
                joins++;
            }
        }
        for (int k = 0; k < joins; k++) {
            likeQuery[length] = OR;
            length++;
        }
        for (int w = 0; w < WORDS; w++) {
            if (hasWord(slot, w)) {
                likeQuery[length] = w;
                length++;
            }
        }
        return length;
    }

    private int find(int[] query, int length, int limit, boolean byPrice, int exceptSlot) {
        weighWords();
        forgetHits();
        int found = 0;
        for (int slot = 0; slot < docCount; slot++) {
            if (docSegment[slot] == IN_BUFFER || docDeleted[slot] || slot == exceptSlot) {
                continue;
            }
            int score = judge(query, 0, length, slot);
            if (score == NO_MATCH) {
                continue;
            }
            found++;
            shareCount[docPrice[slot] / PRICES_IN_SHARE]++;
            int rank = byPrice ? -docPrice[slot] : score;
            keepHit(docNumber[slot], score, rank, limit);
        }
        return found;
    }

    private void forgetHits() {
        hitCount = 0;
        for (int k = 0; k < SHARES; k++) {
            shareCount[k] = 0;
        }
    }

    // Hits come in the order of their numbers, so one goes behind all of equal rank.
    private void keepHit(int number, int score, int rank, int limit) {
        int place = 0;
        for (int k = 0; k < hitCount; k++) {
            if (hitRank[k] >= rank) {
                place = k + 1;
            }
        }
        if (place >= limit) {
            return;
        }
        if (hitCount < limit) {
            hitCount++;
        }
        for (int k = hitCount - 1; k > place; k--) {
            hitNumber[k] = hitNumber[k - 1];
            hitScore[k] = hitScore[k - 1];
            hitRank[k] = hitRank[k - 1];
        }
        hitNumber[place] = number;
        hitScore[place] = score;
        hitRank[place] = rank;
    }

    // The score of a document that matches, or NO_MATCH; the words must have been weighed.
    private int judge(int[] query, int from, int length, int slot) {
        int depth = 0;
        for (int i = length - 1; i >= 0; i--) {
            int t = query[from + i];
            if (isWord(t)) {
                readWord(depth, t, slot);
                scoreSpans(depth, slot);
                depth++;
            } else if (isRange(t)) {
                readRange(depth, t, slot);
                depth++;
            } else if (depth >= 2) {
                depth--;
                if (isSpanJoin(t)) {
                    joinSpans(depth, depth - 1, t == NEXT ? NEXT_REACH : NEAR_REACH);
                    scoreSpans(depth - 1, slot);
                } else {
                    joinMatches(depth, depth - 1, t);
                }
            }
        }
        return partMatches[0] ? partScore[0] : NO_MATCH;
    }

    private void readWord(int part, int w, int slot) {
        for (int i = 0; i < TEXT_ROOM; i++) {
            boolean stands = i < docLength[slot] && docText[slot * TEXT_ROOM + i] == w;
            partSpans[part * TEXT_ROOM + i] = stands ? 1 << i : 0;
        }
        partWeight[part] = wordWeight[w];
    }

    private void readRange(int part, int t, int slot) {
        int low = (t - FIRST_RANGE) / PRICES;
        int high = (t - FIRST_RANGE) % PRICES;
        partMatches[part] = low <= docPrice[slot] && docPrice[slot] <= high;
        partScore[part] = 0;
    }

    // The second part becomes the joined one. A span of it that is still needed begins behind the
    // place i that is written, so it is not overwritten too early.
    private void joinSpans(int firstPart, int secondPart, int reach) {
        int first = firstPart * TEXT_ROOM;
        int second = secondPart * TEXT_ROOM;
        for (int i = 0; i < TEXT_ROOM; i++) {
            int ends = 0;
            for (int j = i; j < TEXT_ROOM; j++) {
                boolean endsAtJ = (partSpans[first + i] >> j & 1) == 1;
                for (int k = j + 1; endsAtJ && k <= j + reach && k < TEXT_ROOM; k++) {
                    ends |= partSpans[second + k];
                }
            }
            partSpans[second + i] = ends;
        }
        partWeight[secondPart] += partWeight[firstPart];
    }

    // A later join of spans replaces this score, so only spans that are no part of others count.
    private void scoreSpans(int part, int slot) {
        int n = countSpans(part);
        partMatches[part] = n > 0;
        partScore[part] = 0;
        if (n > 0 && storedLength > 0) {
            int lengthShare = 90 * docLength[slot] * storedCount / storedLength;
            partScore[part] = partWeight[part] * 220 * n / (100 * n + 30 + lengthShare);
        }
    }

    private int countSpans(int part) {
        int count = 0;
        for (int i = 0; i < TEXT_ROOM; i++) {
            for (int l = 0; l < TEXT_ROOM; l++) {
                count += partSpans[part * TEXT_ROOM + i] >> l & 1;
            }
        }
        return count;
    }

    private void joinMatches(int firstPart, int secondPart, int join) {
        boolean first = partMatches[firstPart];
        boolean second = partMatches[secondPart];
        if (join == WITHOUT) {
            partMatches[secondPart] = first && !second;
            partScore[secondPart] = partScore[firstPart];
        } else {
            partMatches[secondPart] = join == AND ? first && second : first || second;
            partScore[secondPart] += partScore[firstPart];
        }
    }
}
