import java.util.Arrays;

/**
 * Edits that meet: edits over texts of letters with marks, a server that puts the edits of four
 * clients in an order, and clients that go on while they wait. ../shared/DOC.md says what each
 * call answers; its words in capitals are used here in small letters.
 */
public final class EditsMeet {
    public static final int NONE = -1;

    private static final int BAD = -2;
    private static final int OTHER = -3;
    private static final int NOTHING = -4;
    private static final int STUCK = -5;
    private static final int FULL = -6;

    private static final int PART = 0;
    private static final int INSERT = 1;
    private static final int OVER = 2;
    private static final int KEEP = 3;
    private static final int DELETE = 4;
    private static final int MARK = 5;

    private static final int CLIENTS = 4;
    private static final int SERVER = 4;
    private static final int NUMBERS = 12;
    private static final int SHELVES = 8;
    private static final int SORTS = 5;
    private static final int LETTERS = 26;
    private static final int BITS = 4;
    private static final int ALL_BITS = 15;
    private static final int ROW_MOST = 40;
    private static final int TOLD_MOST = 20;
    private static final int TAPE_MOST = 250;
    private static final int REVISIONS_MOST = 90;
    private static final int KEPT_MOST = 20;
    private static final int TEXT_MOST = 60;
    private static final int DAYS_MOST = 60;
    private static final int LENGTH_MOST = 9999;
    private static final int INSERTED_MOST = 400;
    private static final int CELLS_MOST = 1 << 20;

    /** A letter of a text is one int: the letter in its lowest bits, the marks above them. */
    private static final int MARKS_AT = 5;
    private static final int LETTER_MASK = 31;

    /** A part is one int: off, on, kind and, uppermost, how many letters. */
    private static final int ON_AT = 4;
    private static final int KIND_AT = 8;
    private static final int KIND_MASK = 15;
    private static final int SIZE_AT = 12;
    private static final int SORT_MASK = (1 << SIZE_AT) - 1;

    private final Edit[] edits = new Edit[NUMBERS];
    private final Shelf[] shelves = new Shelf[SHELVES];
    private final int[] refusals = new int[5];
    private final Tape tape = new Tape();
    private final Loom loom = new Loom();
    private final Edit draft = new Edit();
    private final Ints spelling = new Ints();
    private final Meeting meeting;
    private Meeting imaged;

    public EditsMeet() {
        meeting = new Meeting(new Revisions());
    }

    // ---------------------------------------------------------------- shelves

    public int row(int s, int sort, int n) {
        if (!isShelf(s) || sort < 0 || sort >= SORTS || n < 0 || n > ROW_MOST) return refuse(BAD);
        shelfToFill(s).holdRow(sort, n);
        return 1;
    }

    public int set(int s, int i, long v) {
        if (!isShelf(s)) return refuse(BAD);
        Shelf shelf = shelves[s];
        if (holdsPart(shelf)) return refuse(OTHER);
        if (holdsNothing(shelf)) return refuse(NOTHING);
        if (i < 0 || i >= shelf.size) return refuse(BAD);
        shelf.put(i, v);
        return 1;
    }

    public int copy(int p, int q, int i, int j, int n) {
        if (!isShelf(p) || !isShelf(q)) return refuse(BAD);
        Shelf source = shelves[p];
        Shelf target = shelves[q];
        if (holdsPart(source) || holdsPart(target)) return refuse(OTHER);
        boolean oneIsEmpty = holdsNothing(source) || holdsNothing(target);
        if (!oneIsEmpty && source.held != target.held) return refuse(OTHER);
        if (oneIsEmpty) return refuse(NOTHING);
        if (!isStretch(i, n, source.size) || !isStretch(j, n, target.size)) return refuse(BAD);
        target.takeFrom(source, i, j, n);
        return n;
    }

    public long element(int s, int i) {
        Shelf shelf = isShelf(s) ? shelves[s] : null;
        return holdsRow(shelf) ? shelf.at(i) : 0L;
    }

    public int holds(int s) {
        Shelf shelf = isShelf(s) ? shelves[s] : null;
        return shelf == null ? NONE : shelf.held;
    }

    public int show(int s, int edit, int i) {
        if (!isShelf(s) || edit != NONE && !isNumber(edit)) return refuse(BAD);
        if (edit == NONE) {
            shelfToFill(s).holdNothing();
            return 1;
        }
        Edit shown = numbered(edit);
        if (shown == null) return refuse(NOTHING);
        if (i < 0 || i >= shown.count()) return refuse(BAD);
        shelfToFill(s).holdPart(shown, i);
        return 1;
    }

    public int says(int s, int kind) {
        if (!isShelf(s) || kind < PART || kind > MARK) return refuse(BAD);
        Shelf shelf = shelves[s];
        if (holdsRow(shelf)) return refuse(OTHER);
        if (holdsNothing(shelf)) return refuse(NOTHING);
        if (!isUnder(shelf.kind(), kind)) return refuse(OTHER);
        return shelf.answersAs(kind);
    }

    private static boolean isShelf(int s) {
        return s >= 0 && s < SHELVES;
    }

    private Shelf shelfToFill(int s) {
        if (!isShelf(s)) return new Shelf();
        if (shelves[s] == null) shelves[s] = new Shelf();
        return shelves[s];
    }

    private static boolean holdsNothing(Shelf shelf) {
        return shelf == null || shelf.held == NONE;
    }

    private static boolean holdsRow(Shelf shelf) {
        return shelf != null && shelf.held >= 0 && shelf.held < SORTS;
    }

    private static boolean holdsPart(Shelf shelf) {
        return shelf != null && shelf.held >= Shelf.PART_FROM;
    }

    private static boolean isStretch(int start, int n, int size) {
        return n >= 0 && n <= size && start >= 0 && start <= size - n;
    }

    private static boolean isUnder(int kind, int asked) {
        if (asked == PART || asked == kind) return true;
        if (asked == OVER) return kind == KEEP || kind == DELETE || kind == MARK;
        return asked == KEEP && kind == MARK;
    }

    // ---------------------------------------------------------------- the tape

    public int feed(int letter) {
        if (letter < 0 || letter > 255) return refuse(BAD);
        if (tape.bytes.size >= TAPE_MOST) return refuse(FULL);
        tape.bytes.add(letter);
        return tape.bytes.size;
    }

    public int wipe() {
        int ahead = tape.bytes.size;
        tape.bytes.clear();
        return ahead;
    }

    public int edit(int edit) {
        int fault = isNumber(edit) ? tape.reads(draft) : NONE;
        tape.bytes.clear();
        if (!isNumber(edit)) return refuse(BAD);
        if (fault != NONE) {
            refuse(BAD);
            return -300 - fault;
        }
        return keepDraft(edit);
    }

    // ---------------------------------------------------------------- edits by number

    public int of(int edit, int what) {
        if (!isNumber(edit) || what < 0 || what > 5) return refuse(BAD);
        Edit asked = numbered(edit);
        if (asked == null) return refuse(NOTHING);
        switch (what) {
            case 0: return asked.count();
            case 1: return asked.from;
            case 2: return asked.to;
            case 3: return asked.allOf(INSERT);
            case 4: return asked.allOf(DELETE);
            default: return asked.allOf(MARK);
        }
    }

    public int part(int edit, int i, int what) {
        if (!isNumber(edit) || what < 0 || what > 3) return refuse(BAD);
        Edit asked = numbered(edit);
        if (asked == null) return refuse(NOTHING);
        if (i < 0 || i >= asked.count()) return refuse(BAD);
        switch (what) {
            case 0: return asked.kindAt(i);
            case 1: return asked.sizeAt(i);
            case 2: return asked.onAt(i);
            default: return asked.offAt(i);
        }
    }

    public int letter(int edit, int i, int k) {
        if (!isNumber(edit)) return refuse(BAD);
        Edit asked = numbered(edit);
        if (asked == null) return refuse(NOTHING);
        if (i < 0 || i >= asked.count()) return refuse(BAD);
        if (asked.kindAt(i) != INSERT) return refuse(OTHER);
        if (k < 0 || k >= asked.sizeAt(i)) return refuse(BAD);
        int told = asked.letters.at(asked.lettersAhead(i) + k);
        return (told & LETTER_MASK) + 100 * (told >> MARKS_AT);
    }

    public int spelled(int edit, int i) {
        if (!isNumber(edit)) return refuse(BAD);
        Edit asked = numbered(edit);
        if (asked == null) return refuse(NOTHING);
        spelling.clear();
        asked.spellTo(spelling);
        return i >= 0 && i < spelling.size ? spelling.at(i) : NONE;
    }

    public int behind(int edit, int a, int b) {
        if (!isNumber(edit) || !isNumber(a) || !isNumber(b)) return refuse(BAD);
        Edit ahead = numbered(a);
        Edit next = numbered(b);
        if (ahead == null || next == null) return refuse(NOTHING);
        if (next.from != ahead.to) return refuse(STUCK);
        loom.chain(ahead, next, draft);
        return draft.isTooBig() ? refuse(FULL) : keepDraft(edit);
    }

    public int over(int edit, int a, int b, int first) {
        if (!isNumber(edit) || !isNumber(a) || !isNumber(b)) return refuse(BAD);
        if (first < 0 || first > 1) return refuse(BAD);
        Edit taken = numbered(a);
        Edit other = numbered(b);
        if (taken == null || other == null) return refuse(NOTHING);
        if (taken.from != other.from) return refuse(STUCK);
        loom.carry(taken, other, first, draft);
        return draft.isTooBig() ? refuse(FULL) : keepDraft(edit);
    }

    public int turned(int edit, int a, int client) {
        Client owner = meeting.clientAt(client);
        if (!isNumber(edit) || !isNumber(a) || owner == null) return refuse(BAD);
        Edit ahead = numbered(a);
        if (ahead == null) return refuse(NOTHING);
        if (ahead.from != owner.text.size) return refuse(STUCK);
        loom.turn(ahead, owner.text, draft);
        return draft.isTooBig() ? refuse(FULL) : keepDraft(edit);
    }

    public int differ(int a, int b) {
        if (!isNumber(a) || !isNumber(b)) return refuse(BAD);
        Edit one = numbered(a);
        Edit two = numbered(b);
        if (one == null || two == null) return refuse(NOTHING);
        return one.firstUnlike(two);
    }

    private static boolean isNumber(int edit) {
        return edit >= 0 && edit < NUMBERS;
    }

    private Edit numbered(int edit) {
        return isNumber(edit) ? edits[edit] : null;
    }

    /** The draft becomes the edit of that number: how many parts it has. */
    private int keepDraft(int edit) {
        if (!isNumber(edit)) return 0;
        if (edits[edit] == null) edits[edit] = new Edit();
        Edit kept = edits[edit];
        kept.trade(draft);
        return kept.count();
    }

    // ---------------------------------------------------------------- what clients do

    public int does(int client, int edit) {
        Client doer = meeting.clientAt(client);
        if (doer == null || !isNumber(edit)) return refuse(BAD);
        Edit done = numbered(edit);
        if (done == null) return refuse(NOTHING);
        if (done.from != doer.text.size) return refuse(STUCK);
        if (doer.isTooLongBy(done)) return refuse(FULL);
        doer.doNew(done, loom);
        return doer.text.size;
    }

    public int insert(int client, int place, int letter, int marks) {
        Client doer = meeting.clientAt(client);
        if (doer == null || place < 0 || place > doer.text.size) return refuse(BAD);
        if (letter < 0 || letter >= LETTERS || marks < 0 || marks > ALL_BITS) return refuse(BAD);
        if (doer.text.size >= TEXT_MOST) return refuse(FULL);
        draftInsert(doer, place, letter | (marks << MARKS_AT));
        doer.doNew(draft, loom);
        return doer.text.size;
    }

    public int cut(int client, int place, int n) {
        Client doer = meeting.clientAt(client);
        if (doer == null || n < 1 || !isStretch(place, n, doer.text.size)) return refuse(BAD);
        draftOver(doer, place, n, DELETE, 0, 0);
        doer.doNew(draft, loom);
        return doer.text.size;
    }

    public int mark(int client, int place, int n, int bit, int is) {
        Client doer = meeting.clientAt(client);
        if (doer == null || n < 1 || !isStretch(place, n, doer.text.size)) return refuse(BAD);
        if (bit < 0 || bit >= BITS || is < 0 || is > 1) return refuse(BAD);
        int otherwise = 0;
        for (int k = 0; k < n; k++) {
            int had = (doer.text.at(place + k) >> (MARKS_AT + bit)) & 1;
            if (had != is) otherwise++;
        }
        draftOver(doer, place, n, MARK, is << bit, (1 - is) << bit);
        doer.doNew(draft, loom);
        return otherwise;
    }

    public int undo(int client) {
        Client doer = meeting.clientAt(client);
        if (doer == null) return refuse(BAD);
        int why = whyNotAgain(doer, doer.undos);
        if (why != 0) return refuse(why);
        doer.doLatest(doer.undos, doer.redos, loom);
        return doer.undos.count;
    }

    public int redo(int client) {
        Client doer = meeting.clientAt(client);
        if (doer == null) return refuse(BAD);
        int why = whyNotAgain(doer, doer.redos);
        if (why != 0) return refuse(why);
        doer.doLatest(doer.redos, doer.undos, loom);
        return doer.redos.count;
    }

    public int point(int client, int place, int other) {
        Client asked = meeting.clientAt(client);
        if (asked == null) return refuse(BAD);
        int most = asked.text.size;
        if (place < 0 || place > most || other < 0 || other > most) return refuse(BAD);
        asked.place = place;
        asked.otherPlace = other;
        return 1;
    }

    private void draftInsert(Client doer, int place, int letter) {
        draft.begin();
        draft.goOver(KEEP, 0, 0, place);
        draft.putIn(letter);
        draft.goOver(KEEP, 0, 0, doer.text.size - place);
    }

    private void draftOver(Client doer, int place, int n, int kind, int on, int off) {
        draft.begin();
        draft.goOver(KEEP, 0, 0, place);
        draft.goOver(kind, on, off, n);
        draft.goOver(KEEP, 0, 0, doer.text.size - place - n);
    }

    /** STUCK or FULL, if the latest of these can't be done; else 0. */
    private static int whyNotAgain(Client doer, History history) {
        Edit latest = history.latest();
        if (latest == null) return STUCK;
        return doer.isTooLongBy(latest) ? FULL : 0;
    }

    // ---------------------------------------------------------------- server and clients

    public int serve(int client) {
        Client sender = meeting.clientAt(client);
        if (sender == null) return refuse(BAD);
        if (!sender.isUnserved()) return refuse(STUCK);
        if (meeting.count >= REVISIONS_MOST) return refuse(FULL);
        meeting.takeSent(client, loom);
        return meeting.count;
    }

    public int hear(int client) {
        Client hearer = meeting.clientAt(client);
        if (hearer == null) return refuse(BAD);
        if (hearer.revision >= meeting.count) return refuse(STUCK);
        hearer.hearNext(meeting.revisions, loom);
        return hearer.revision;
    }

    public int meet() {
        // What waits is sent by the first round and served by the next, so a few rounds do.
        for (int round = 0; round <= REVISIONS_MOST && !meeting.isSettled(); round++) {
            for (int c = 0; c < CLIENTS; c++) {
                Client sender = meeting.clientAt(c);
                if (sender == null || !sender.isUnserved()) continue;
                if (meeting.count >= REVISIONS_MOST) return refuse(FULL);
                meeting.takeSent(c, loom);
            }
            for (int c = 0; c < CLIENTS; c++) meeting.tellAll(c, loom);
        }
        return meeting.count;
    }

    public int cursor(int client, int what) {
        Client asked = meeting.clientAt(client);
        if (asked == null || what < 0 || what > 1) return refuse(BAD);
        return what == 0 ? asked.place : asked.otherPlace;
    }

    public int clientOf(int client, int what) {
        Client asked = meeting.clientAt(client);
        if (asked == null || what < 0 || what > 6) return refuse(BAD);
        switch (what) {
            case 0: return asked.revision;
            case 1: return asked.hasSent ? asked.sent.count() : 0;
            case 2: return asked.hasSent && asked.isServed ? 1 : 0;
            case 3: return asked.hasWaiting ? asked.waiting.count() : 0;
            case 4: return asked.undos.count;
            case 5: return asked.redos.count;
            default: return meeting.count - asked.revision;
        }
    }

    public int takes(int edit, int client, int what) {
        Client asked = meeting.clientAt(client);
        if (!isNumber(edit) || asked == null || what < 0 || what > 3) return refuse(BAD);
        Edit found = asked.told(what);
        if (found == null) return refuse(STUCK);
        draft.like(found);
        return keepDraft(edit);
    }

    public int revision(int edit, int n) {
        if (!isNumber(edit) || n < 1 || n > meeting.count) return refuse(BAD);
        draft.like(meeting.revisions.slot(n - 1));
        keepDraft(edit);
        return meeting.revisions.clientAt(n - 1);
    }

    // ---------------------------------------------------------------- texts

    public int length(int client) {
        Ints asked = meeting.textAt(client);
        return asked == null ? refuse(BAD) : asked.size;
    }

    public int text(int client, int place, int what) {
        Ints asked = meeting.textAt(client);
        if (asked == null || place < 0 || place >= asked.size) return refuse(BAD);
        if (what < 0 || what > 1) return refuse(BAD);
        int told = asked.at(place);
        return what == 0 ? told & LETTER_MASK : told >> MARKS_AT;
    }

    public int apart(int client, int other) {
        Ints one = meeting.textAt(client);
        Ints two = meeting.textAt(other);
        if (one == null || two == null) return refuse(BAD);
        return one.firstUnlike(two);
    }

    public int marked(int client, int bit) {
        Ints asked = meeting.textAt(client);
        if (asked == null || bit < 0 || bit > BITS) return refuse(BAD);
        int found = 0;
        for (int i = 0; i < asked.size; i++) {
            int marks = asked.at(i) >> MARKS_AT;
            boolean fits = bit == BITS ? marks == 0 : ((marks >> bit) & 1) == 1;
            if (fits) found |= 1 << (asked.at(i) & LETTER_MASK);
        }
        return found;
    }

    public int judge(int client, int s, int n) {
        Ints asked = meeting.textAt(client);
        if (asked == null || !isShelf(s) || n < 0 || n > TOLD_MOST) return refuse(BAD);
        Shelf told = shelves[s];
        if (holdsPart(told)) return refuse(OTHER);
        if (holdsNothing(told)) return refuse(NOTHING);
        if (told.size < 2 * n) return refuse(BAD);
        int both = Math.min(n, asked.size);
        for (int i = 0; i < both; i++) {
            if (told.at(2 * i) != (asked.at(i) & LETTER_MASK)) return i;
            if (told.at(2 * i + 1) != asked.at(i) >> MARKS_AT) return i;
        }
        return asked.size == n ? NONE : both;
    }

    // ---------------------------------------------------------------- days by draws

    public int days(int n) {
        if (n < 1 || n > DAYS_MOST) return refuse(BAD);
        int busy = 0;
        for (int day = 0; day < n; day++) {
            if (spendDay()) busy++;
        }
        return busy;
    }

    public int seed(int v) {
        int ahead = meeting.seed;
        meeting.seed = v;
        return ahead;
    }

    /** One day: whether something was done in it. What can't be done draws nothing more. */
    private boolean spendDay() {
        int client = meeting.draw(CLIENTS);
        int deed = meeting.draw(8);
        Client doer = meeting.clientAt(client);
        if (doer == null) return false;
        if (deed <= 4) {
            if (!draftByDraws(doer, deed)) return false;
            doer.doNew(draft, loom);
        } else if (deed == 5) {
            if (whyNotAgain(doer, doer.undos) != 0) return false;
            doer.doLatest(doer.undos, doer.redos, loom);
        } else if (deed == 6) {
            if (!doer.isUnserved() || meeting.count >= REVISIONS_MOST) return false;
            meeting.takeSent(client, loom);
        } else {
            if (doer.revision >= meeting.count) return false;
            doer.hearNext(meeting.revisions, loom);
        }
        return true;
    }

    /** Whether the client's text lets a letter be inserted (0 to 2), deleted (3), marked (4). */
    private boolean draftByDraws(Client doer, int deed) {
        int size = doer.text.size;
        if (deed <= 2) {
            if (size >= TEXT_MOST) return false;
            int letter = meeting.draw(LETTERS);
            draftInsert(doer, meeting.draw(size + 1), letter);
            return true;
        }
        if (size < 1) return false;
        int place = meeting.draw(size);
        if (deed == 3) draftOver(doer, place, 1, DELETE, 0, 0);
        else draftOver(doer, place, 1, MARK, 1 << meeting.draw(BITS), 0);
        return true;
    }

    // ---------------------------------------------------------------- kept and told

    public int image() {
        if (imaged == null) imaged = new Meeting(meeting.revisions);
        imaged.like(meeting);
        return 1;
    }

    public int back() {
        if (imaged == null) return refuse(STUCK);
        meeting.like(imaged);
        return 1;
    }

    public int status(int what) {
        switch (what) {
            case 0: return meeting.count;
            case 1: return meeting.clientsAlike();
            case 2: return editsByNumber();
            case 3: return meeting.allLetters();
            case 4: return meeting.clientsSending();
            case 5: return tape.bytes.size;
            case 6: return meeting.seed;
            case 7: return shelvesInUse();
            default:
                int refusal = what - 12;
                return refusal >= 0 && refusal < refusals.length ? refusals[refusal] : NONE;
        }
    }

    private int editsByNumber() {
        int found = 0;
        for (int i = 0; i < edits.length; i++) {
            if (edits[i] != null) found++;
        }
        return found;
    }

    private int shelvesInUse() {
        int found = 0;
        for (int s = 0; s < shelves.length; s++) {
            if (!holdsNothing(shelves[s])) found++;
        }
        return found;
    }

    private int refuse(int why) {
        int i = BAD - why;
        if (i >= 0 && i < refusals.length) refusals[i]++;
        return why;
    }

    // ---------------------------------------------------------------- classes inside

    /** Ints in a row that grows; a place that isn't in it reads 0 and takes nothing. */
    private static final class Ints {
        private int[] cells = new int[4];
        private int size;

        int at(int i) {
            return i >= 0 && i < size && i < cells.length ? cells[i] : 0;
        }

        void put(int i, int v) {
            if (i >= 0 && i < size && i < cells.length) cells[i] = v;
        }

        void add(int v) {
            if (size >= cells.length) {
                if (cells.length >= CELLS_MOST) return;
                cells = Arrays.copyOf(cells, 2 * cells.length);
            }
            if (size >= 0 && size < cells.length) cells[size++] = v;
        }

        void clear() {
            size = 0;
        }

        void like(Ints other) {
            if (cells.length < other.size) cells = new int[other.cells.length];
            System.arraycopy(other.cells, 0, cells, 0, other.size);
            size = other.size;
        }

        void trade(Ints other) {
            int[] hisCells = other.cells;
            int hisSize = other.size;
            other.cells = cells;
            other.size = size;
            cells = hisCells;
            size = hisSize;
        }

        int firstUnlike(Ints other) {
            int both = Math.min(size, other.size);
            for (int i = 0; i < both; i++) {
                if (at(i) != other.at(i)) return i;
            }
            return size == other.size ? NONE : both;
        }
    }

    /** An edit, kept plain at every step of its making; all its letters stand in one row. */
    private static final class Edit {
        private final Ints parts = new Ints();
        private final Ints letters = new Ints();
        private int from;
        private int to;

        void begin() {
            parts.clear();
            letters.clear();
            from = 0;
            to = 0;
        }

        int count() {
            return parts.size;
        }

        int kindAt(int i) {
            return (parts.at(i) >> KIND_AT) & KIND_MASK;
        }

        int sizeAt(int i) {
            return parts.at(i) >> SIZE_AT;
        }

        int onAt(int i) {
            return (parts.at(i) >> ON_AT) & ALL_BITS;
        }

        int offAt(int i) {
            return parts.at(i) & ALL_BITS;
        }

        /** Goes over n letters more (not with an insert); a mark that turns no bit is a keep. */
        void goOver(int kind, int on, int off, int n) {
            if (n < 1) return;
            int plainKind = kind == MARK && (on | off) == 0 ? KEEP : kind;
            int sort = (plainKind << KIND_AT) | (on << ON_AT) | off;
            int last = parts.at(parts.size - 1);
            if ((last & SORT_MASK) == sort) parts.put(parts.size - 1, last + (n << SIZE_AT));
            else parts.add(sort | (n << SIZE_AT));
            from += n;
            if (kind != DELETE) to += n;
        }

        /** Inserts a letter; behind a delete it goes ahead of that. */
        void putIn(int letter) {
            letters.add(letter);
            to++;
            int last = parts.size - 1;
            int ahead = kindAt(last) == DELETE ? last - 1 : last;
            if (kindAt(ahead) == INSERT) {
                parts.put(ahead, parts.at(ahead) + (1 << SIZE_AT));
                return;
            }
            int fresh = (INSERT << KIND_AT) | (1 << SIZE_AT);
            if (ahead == last) {
                parts.add(fresh);
                return;
            }
            int deleted = parts.at(last);
            parts.put(last, fresh);
            parts.add(deleted);
        }

        void like(Edit other) {
            parts.like(other.parts);
            letters.like(other.letters);
            from = other.from;
            to = other.to;
        }

        void trade(Edit other) {
            parts.trade(other.parts);
            letters.trade(other.letters);
            int hisFrom = other.from;
            int hisTo = other.to;
            other.from = from;
            other.to = to;
            from = hisFrom;
            to = hisTo;
        }

        int allOf(int kind) {
            int found = 0;
            for (int i = 0; i < parts.size; i++) {
                if (kindAt(i) == kind) found += sizeAt(i);
            }
            return found;
        }

        int lettersAhead(int part) {
            int found = 0;
            for (int i = 0; i < part && i < parts.size; i++) {
                if (kindAt(i) == INSERT) found += sizeAt(i);
            }
            return found;
        }

        boolean isTooBig() {
            return from > LENGTH_MOST || to > LENGTH_MOST || letters.size > INSERTED_MOST;
        }

        int firstUnlike(Edit other) {
            int both = Math.min(parts.size, other.parts.size);
            int letter = 0;
            for (int i = 0; i < both; i++) {
                if (parts.at(i) != other.parts.at(i)) return i;
                int inserted = kindAt(i) == INSERT ? sizeAt(i) : 0;
                for (int k = 0; k < inserted; k++) {
                    if (letters.at(letter + k) != other.letters.at(letter + k)) return i;
                }
                letter += inserted;
            }
            return parts.size == other.parts.size ? NONE : both;
        }

        /**
         * Where a place goes. All is told by places of the old text: as the edit is plain, nothing
         * is inserted behind what is deleted, so both lie as they do while the text changes.
         */
        int placeAfter(int place, boolean isOwn) {
            int moved = place;
            int old = 0;
            for (int i = 0; i < parts.size; i++) {
                int n = sizeAt(i);
                int kind = kindAt(i);
                if (kind == INSERT) {
                    if (old < place || isOwn && old == place) moved += n;
                    continue;
                }
                if (kind == DELETE && old < place) moved -= Math.min(n, place - old);
                old += n;
            }
            return moved;
        }

        void spellTo(Ints out) {
            int letter = 0;
            for (int i = 0; i < parts.size; i++) {
                int kind = kindAt(i);
                int n = sizeAt(i);
                if (kind == INSERT) {
                    out.add('+');
                    for (int k = 0; k < n; k++) out.add('a' + (letters.at(letter + k) & LETTER_MASK));
                    letter += n;
                } else if (kind == MARK) {
                    spellMark(out, n, onAt(i), offAt(i));
                } else {
                    out.add(kind == KEEP ? '=' : '-');
                    spellNumber(out, n);
                }
            }
        }

        private static void spellMark(Ints out, int n, int on, int off) {
            out.add(on != 0 ? '^' : '_');
            spellNumber(out, n);
            out.add('.');
            spellNumber(out, on != 0 ? on : off);
            if (on != 0 && off != 0) {
                out.add('_');
                spellNumber(out, off);
            }
        }

        private static void spellNumber(Ints out, int n) {
            boolean isBegun = false;
            for (int power = 100000000; power > 0; power /= 10) {
                int digit = (n / power) % 10;
                isBegun = isBegun || digit != 0;
                if (isBegun) out.add('0' + digit);
            }
        }
    }

    /** Goes along the parts of an edit, some letters at once; at its end kind is PART, left 0. */
    private static final class Walk {
        private Ints parts;
        private int i;
        private int letter;
        private int kind;
        private int left;
        private int on;
        private int off;

        void start(Edit edit) {
            parts = edit.parts;
            i = -1;
            letter = 0;
            enterNext();
        }

        void go(int n) {
            if (kind == INSERT) letter += n;
            left -= n;
            if (left <= 0) enterNext();
        }

        private void enterNext() {
            if (parts == null) return;
            i++;
            int entered = parts.at(i);
            kind = (entered >> KIND_AT) & KIND_MASK;
            left = entered >> SIZE_AT;
            on = (entered >> ON_AT) & ALL_BITS;
            off = entered & ALL_BITS;
        }
    }

    /** Weaves edits; the edits that it needs for that are its own, to be used again and again. */
    private static final class Loom {
        private final Walk one = new Walk();
        private final Walk two = new Walk();
        private final Edit woven = new Edit();
        private final Edit other = new Edit();
        private final Edit coming = new Edit();
        private final Edit came = new Edit();
        private final Ints made = new Ints();

        private static int turnMarks(int letter, int on, int off) {
            return (letter | (on << MARKS_AT)) & ~(off << MARKS_AT);
        }

        /** b behind a. Each step ends a part of one of them. */
        void chain(Edit a, Edit b, Edit out) {
            out.begin();
            one.start(a);
            two.start(b);
            int steps = a.count() + b.count();
            for (int step = 0; step < steps; step++) {
                if (one.kind == DELETE) {
                    out.goOver(DELETE, 0, 0, one.left);
                    one.go(one.left);
                    continue;
                }
                if (two.kind == INSERT) {
                    for (int k = 0; k < two.left; k++) out.putIn(b.letters.at(two.letter + k));
                    two.go(two.left);
                    continue;
                }
                int n = Math.min(one.left, two.left);
                if (one.kind == INSERT) {
                    for (int k = 0; k < n && two.kind != DELETE; k++) {
                        out.putIn(turnMarks(a.letters.at(one.letter + k), two.on, two.off));
                    }
                } else if (two.kind == DELETE) {
                    out.goOver(DELETE, 0, 0, n);
                } else {
                    out.goOver(MARK, (one.on & ~two.off) | two.on, (one.off & ~two.on) | two.off, n);
                }
                one.go(n);
                two.go(n);
            }
        }

        /** a over b. Each step ends a part of one of them. */
        void carry(Edit a, Edit b, int first, Edit out) {
            out.begin();
            one.start(a);
            two.start(b);
            int steps = a.count() + b.count();
            for (int step = 0; step < steps; step++) {
                if (one.kind == INSERT && (first == 1 || two.kind != INSERT)) {
                    for (int k = 0; k < one.left; k++) out.putIn(a.letters.at(one.letter + k));
                    one.go(one.left);
                } else if (two.kind == INSERT) {
                    out.goOver(KEEP, 0, 0, two.left);
                    two.go(two.left);
                } else {
                    int n = Math.min(one.left, two.left);
                    int spared = first == 1 ? two.on | two.off : 0;
                    if (two.kind != DELETE) out.goOver(one.kind, one.on & ~spared, one.off & ~spared, n);
                    one.go(n);
                    two.go(n);
                }
            }
        }

        /** What brings the text back from what the edit makes of it. */
        void turn(Edit edit, Ints text, Edit out) {
            out.begin();
            int place = 0;
            for (int i = 0; i < edit.count(); i++) {
                int kind = edit.kindAt(i);
                int n = edit.sizeAt(i);
                int on = edit.onAt(i);
                int off = edit.offAt(i);
                if (kind == INSERT) {
                    out.goOver(DELETE, 0, 0, n);
                    continue;
                }
                for (int k = 0; k < n; k++) {
                    int letter = text.at(place + k);
                    int marks = letter >> MARKS_AT;
                    if (kind == DELETE) out.putIn(letter);
                    else out.goOver(MARK, off & marks, on & ~marks, 1);
                }
                place += n;
            }
        }

        /** The text becomes what the edit makes of it. */
        void make(Edit edit, Ints text) {
            made.clear();
            int place = 0;
            int letter = 0;
            for (int i = 0; i < edit.count(); i++) {
                int kind = edit.kindAt(i);
                int n = edit.sizeAt(i);
                int on = edit.onAt(i);
                int off = edit.offAt(i);
                for (int k = 0; k < n; k++) {
                    if (kind == INSERT) made.add(edit.letters.at(letter + k));
                    else if (kind != DELETE) made.add(turnMarks(text.at(place + k), on, off));
                }
                if (kind == INSERT) letter += n;
                else place += n;
            }
            text.trade(made);
        }

        /** The edit becomes what it is over b. */
        void carryOn(Edit edit, Edit b) {
            carry(edit, b, 0, woven);
            edit.trade(woven);
        }

        /** The edit and the coming one pass each other: each becomes what it is over the other. */
        void cross(Edit edit) {
            if (edit == null) return;
            carry(edit, coming, 0, woven);
            carry(coming, edit, 1, other);
            edit.trade(woven);
            coming.trade(other);
        }
    }

    /** Edits to undo or to redo; when there are too many, the oldest edit's place is used again. */
    private static final class History {
        private final Edit[] kept = new Edit[KEPT_MOST];
        private int count;

        Edit at(int i) {
            return i >= 0 && i < count && i < kept.length ? kept[i] : null;
        }

        Edit latest() {
            return at(count - 1);
        }

        void drop() {
            if (count > 0) count--;
        }

        void clear() {
            count = 0;
        }

        /** A new latest edit, to be filled. */
        Edit fresh() {
            if (count < kept.length) count++;
            else putOldestLast();
            int i = count - 1;
            if (i < 0 || i >= kept.length) return new Edit();
            if (kept[i] == null) kept[i] = new Edit();
            return kept[i];
        }

        private void putOldestLast() {
            for (int i = 1; i < kept.length; i++) {
                Edit oldest = kept[i - 1];
                kept[i - 1] = kept[i];
                kept[i] = oldest;
            }
        }

        void like(History other) {
            clear();
            for (int i = 0; i < other.count; i++) {
                Edit his = other.at(i);
                if (his != null) fresh().like(his);
            }
        }
    }

    private static final class Client {
        private final int number;
        private final Ints text = new Ints();
        private final Edit sent = new Edit();
        private final Edit waiting = new Edit();
        private final History undos = new History();
        private final History redos = new History();
        private boolean hasSent;
        private boolean isServed;
        private boolean hasWaiting;
        private int revision;
        private int place;
        private int otherPlace;

        Client(int ownNumber) {
            number = ownNumber;
        }

        boolean isUnserved() {
            return hasSent && !isServed;
        }

        boolean isTooLongBy(Edit edit) {
            return edit.to > TEXT_MOST && edit.to > text.size;
        }

        /** What is sent, what waits, the latest to undo, to redo; null where there is none. */
        Edit told(int what) {
            switch (what) {
                case 0: return hasSent ? sent : null;
                case 1: return hasWaiting ? waiting : null;
                case 2: return undos.latest();
                default: return redos.latest();
            }
        }

        void doNew(Edit edit, Loom loom) {
            loom.turn(edit, text, undos.fresh());
            redos.clear();
            perform(edit, loom);
        }

        /** The latest of one history is done; what turns it goes to the other one. */
        void doLatest(History history, History opposite, Loom loom) {
            Edit edit = history.latest();
            if (edit == null) return;
            history.drop();
            loom.turn(edit, text, opposite.fresh());
            perform(edit, loom);
        }

        private void perform(Edit edit, Loom loom) {
            change(edit, true, loom);
            if (!hasSent) {
                sent.like(edit);
                hasSent = true;
                isServed = false;
            } else if (!hasWaiting) {
                waiting.like(edit);
                hasWaiting = true;
            } else {
                loom.chain(waiting, edit, loom.woven);
                waiting.trade(loom.woven);
            }
        }

        private void change(Edit edit, boolean isOwn, Loom loom) {
            loom.make(edit, text);
            place = edit.placeAfter(place, isOwn);
            otherPlace = edit.placeAfter(otherPlace, isOwn);
        }

        void hearNext(Revisions all, Loom loom) {
            boolean isOwn = all.clientAt(revision) == number;
            Edit heard = all.slot(revision);
            revision++;
            if (isOwn) {
                sendWaiting();
                return;
            }
            loom.coming.like(heard);
            if (hasSent) loom.cross(sent);
            if (hasWaiting) loom.cross(waiting);
            change(loom.coming, false, loom);
            loom.came.like(loom.coming);
            for (int i = undos.count - 1; i >= 0; i--) loom.cross(undos.at(i));
            loom.coming.like(loom.came);
            for (int i = redos.count - 1; i >= 0; i--) loom.cross(redos.at(i));
        }

        private void sendWaiting() {
            hasSent = hasWaiting;
            isServed = false;
            if (hasWaiting) sent.trade(waiting);
            hasWaiting = false;
        }

        void like(Client other) {
            text.like(other.text);
            sent.like(other.sent);
            waiting.like(other.waiting);
            undos.like(other.undos);
            redos.like(other.redos);
            hasSent = other.hasSent;
            isServed = other.isServed;
            hasWaiting = other.hasWaiting;
            revision = other.revision;
            place = other.place;
            otherPlace = other.otherPlace;
        }
    }

    /** The server's revisions and whose they are; how many of them hold, a meeting knows. */
    private static final class Revisions {
        private final Edit[] edits = new Edit[REVISIONS_MOST];
        private final int[] clients = new int[REVISIONS_MOST];

        Edit slot(int i) {
            if (i < 0 || i >= edits.length) return new Edit();
            if (edits[i] == null) edits[i] = new Edit();
            return edits[i];
        }

        int clientAt(int i) {
            return i >= 0 && i < clients.length ? clients[i] : NONE;
        }

        void sign(int i, int client) {
            if (i >= 0 && i < clients.length) clients[i] = client;
        }
    }

    /**
     * The server and its clients: all that an image keeps. A meeting and its image share the
     * revisions, since those that the image counts stay as they are till another image is made.
     */
    private static final class Meeting {
        private final Revisions revisions;
        private final Client[] clients = new Client[CLIENTS];
        private final Ints server = new Ints();
        private int count;
        private int seed = 1;

        Meeting(Revisions shared) {
            revisions = shared;
            for (int c = 0; c < clients.length; c++) clients[c] = new Client(c);
        }

        Client clientAt(int c) {
            return c >= 0 && c < clients.length ? clients[c] : null;
        }

        Ints textAt(int c) {
            if (c == SERVER) return server;
            Client client = clientAt(c);
            return client == null ? null : client.text;
        }

        /**
         * What is sent becomes the next revision. As the client has taken it over all that it
         * heard since it was sent, it is what it was when it was sent, taken over those.
         */
        void takeSent(int c, Loom loom) {
            Client client = clientAt(c);
            if (client == null || count >= REVISIONS_MOST) return;
            Edit next = revisions.slot(count);
            next.like(client.sent);
            for (int r = client.revision; r < count; r++) loom.carryOn(next, revisions.slot(r));
            loom.make(next, server);
            revisions.sign(count, c);
            count++;
            client.isServed = true;
        }

        void tellAll(int c, Loom loom) {
            Client client = clientAt(c);
            if (client == null) return;
            for (int r = client.revision; r < count; r++) client.hearNext(revisions, loom);
        }

        boolean isSettled() {
            for (int c = 0; c < CLIENTS; c++) {
                Client client = clientAt(c);
                if (client != null && (client.isUnserved() || client.revision < count)) return false;
            }
            return true;
        }

        int clientsAlike() {
            int found = 0;
            for (int c = 0; c < CLIENTS; c++) {
                Ints his = textAt(c);
                if (his != null && his.firstUnlike(server) == NONE) found++;
            }
            return found;
        }

        int clientsSending() {
            int found = 0;
            for (int c = 0; c < CLIENTS; c++) {
                Client client = clientAt(c);
                if (client != null && client.hasSent) found++;
            }
            return found;
        }

        int allLetters() {
            int found = server.size;
            for (int c = 0; c < CLIENTS; c++) {
                Ints his = textAt(c);
                if (his != null) found += his.size;
            }
            return found;
        }

        /** A draw below n. */
        int draw(int n) {
            seed = seed * 1103515245 + 12345;
            return n > 0 ? (seed >>> 16) % n : 0;
        }

        void like(Meeting other) {
            server.like(other.server);
            count = other.count;
            seed = other.seed;
            for (int c = 0; c < CLIENTS; c++) {
                Client client = clientAt(c);
                Client his = other.clientAt(c);
                if (client != null && his != null) client.like(his);
            }
        }
    }

    /** Bytes that are read for an edit. */
    private static final class Tape {
        private final Ints bytes = new Ints();
        private int place;
        private int fault;

        /** Reads all of it: the fault, or NONE. Behind its end it reads 0, which fits nowhere. */
        int reads(Edit out) {
            out.begin();
            place = 0;
            fault = bytes.size == 0 ? 0 : NONE;
            for (int k = 0; k < bytes.size && fault == NONE && place < bytes.size; k++) readPart(out);
            return fault;
        }

        private void readPart(Edit out) {
            int sign = bytes.at(place);
            if (sign == '+') {
                readLetters(out);
            } else if (sign == '=' || sign == '-') {
                place++;
                int n = readNumber(99);
                if (fault == NONE) out.goOver(sign == '=' ? KEEP : DELETE, 0, 0, n);
            } else if (sign == '^' || sign == '_') {
                place++;
                int n = readNumber(99);
                readDot();
                int bits = readNumber(ALL_BITS);
                if (fault == NONE) out.goOver(MARK, sign == '^' ? bits : 0, sign == '^' ? 0 : bits, n);
            } else {
                fault = place;
            }
        }

        private void readLetters(Edit out) {
            place++;
            int start = place;
            for (int k = 0; k < TAPE_MOST && isLetter(bytes.at(place)); k++) {
                out.putIn(bytes.at(place) - 'a');
                place++;
            }
            if (place == start) fault = place;
        }

        private void readDot() {
            if (fault != NONE) return;
            if (bytes.at(place) == '.') place++;
            else fault = place;
        }

        /** A number of one or two digits, 1 to most; 0 at a fault. */
        private int readNumber(int most) {
            if (fault != NONE) return 0;
            int start = place;
            int value = 0;
            for (int k = 0; k < 2 && isDigit(bytes.at(place)); k++) {
                value = 10 * value + bytes.at(place) - '0';
                place++;
            }
            if (place == start) fault = place;
            else if (value < 1 || value > most) fault = start;
            else if (isDigit(bytes.at(place))) fault = place;
            return fault == NONE ? value : 0;
        }

        private static boolean isLetter(int sign) {
            return sign >= 'a' && sign <= 'z';
        }

        private static boolean isDigit(int sign) {
            return sign >= '0' && sign <= '9';
        }
    }

    /** Holds nothing, a row of elements, or a part as it was when it was shown. */
    private static final class Shelf {
        private static final int PART_FROM = 10;

        private int held = NONE;
        private int size;
        private long[] elements;
        private int on;
        private int off;
        private int firstLetter;

        void holdNothing() {
            held = NONE;
            size = 0;
        }

        void holdRow(int sort, int n) {
            held = sort;
            size = n;
            if (elements == null) elements = new long[ROW_MOST];
            else Arrays.fill(elements, 0L);
        }

        /** Of a part the size is how many letters it goes over or inserts. */
        void holdPart(Edit edit, int i) {
            held = PART_FROM + edit.kindAt(i);
            size = edit.sizeAt(i);
            on = edit.onAt(i);
            off = edit.offAt(i);
            firstLetter = edit.letters.at(edit.lettersAhead(i)) & LETTER_MASK;
        }

        int kind() {
            return held - PART_FROM;
        }

        int answersAs(int kind) {
            switch (kind) {
                case INSERT: return firstLetter;
                case KEEP: return Integer.bitCount(on) + Integer.bitCount(off);
                case DELETE: return size + 100;
                case MARK: return 16 * on + off;
                default: return size;
            }
        }

        long at(int i) {
            return elements != null && i >= 0 && i < size && i < elements.length ? elements[i] : 0L;
        }

        void put(int i, long v) {
            if (elements != null && i >= 0 && i < size && i < elements.length) elements[i] = lowest(v);
        }

        /** What a sort keeps of a number: its lowest bits; of booleans whether it is 0. */
        private long lowest(long v) {
            switch (held) {
                case 0: return (byte) v;
                case 1: return (short) v;
                case 2: return (int) v;
                case 4: return v != 0 ? 1L : 0L;
                default: return v;
            }
        }

        void takeFrom(Shelf source, int i, int j, int n) {
            if (elements == null || source.elements == null) return;
            if (!isStretch(i, n, source.elements.length) || !isStretch(j, n, elements.length)) return;
            System.arraycopy(source.elements, i, elements, j, n);
        }
    }
}
