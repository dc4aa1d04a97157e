import java.util.ArrayList;
import java.util.Arrays;

/**
 * Edits that meet: edits over texts of letters with marks, a server that puts the edits of four
 * clients in an order, and clients that go on while they wait. ../shared/DOC.md says what each
 * call answers; its words in capitals are used here in small letters.
 */
public final class EditsMeet {
    public static final int NONE = -1;

    private static final int BAD = -2;
    private static final int OTHER = -3;
    private static final int NOTHING = -4;
    private static final int STUCK = -5;
    private static final int FULL = -6;

    private static final int PART = 0;
    private static final int INSERT = 1;
    private static final int OVER = 2;
    private static final int KEEP = 3;
    private static final int DELETE = 4;
    private static final int MARK = 5;

    private static final int CLIENTS = 4;
    private static final int SERVER = 4;
    private static final int NUMBERS = 12;
    private static final int SHELVES = 8;
    private static final int SORTS = 5;
    private static final int LETTERS = 26;
    private static final int BITS = 4;
    private static final int ALL_BITS = 15;
    private static final int ROW_MOST = 40;
    private static final int TOLD_MOST = 20;
    private static final int TAPE_MOST = 250;
    private static final int REVISIONS_MOST = 90;
    private static final int KEPT_MOST = 20;
    private static final int TEXT_MOST = 60;
    private static final int DAYS_MOST = 60;
    private static final int LENGTH_MOST = 9999;
    private static final int INSERTED_MOST = 400;

    /** A letter with marks is one int: the letter in its lowest bits, the marks above them. */
    private static final int MARKS_AT = 5;
    private static final int LETTER_MASK = 31;

    /** A part is one long: off, on, kind and, uppermost, how many letters (of an insert which). */
    private static final int ON_AT = 4;
    private static final int KIND_AT = 8;
    private static final int KIND_MASK = 15;
    private static final int SIZE_AT = 12;
    private static final int SORT_MASK = (1 << SIZE_AT) - 1;

    private final Edit[] edits = new Edit[NUMBERS];
    private final Shelf[] shelves = new Shelf[SHELVES];
    private final int[] refusals = new int[5];
    private final Letters letters = new Letters();
    private final Tape tape = new Tape(letters);
    private final Row spelling = new Row(letters);
    private final Loom loom = new Loom(letters);
    private final Edit draft = letters.newEdit();
    private final Meeting meeting;
    private Meeting imaged;

    public EditsMeet() {
        meeting = new Meeting(letters, new Revisions(letters));
    }

    // ---------------------------------------------------------------- shelves

    public int row(int s, int sort, int n) {
        if (!isShelf(s) || sort < 0 || sort >= SORTS || n < 0 || n > ROW_MOST) return refuse(BAD);
        shelfToFill(s).holdRow(sort, n);
        return 1;
    }

    public int set(int s, int i, long v) {
        if (!isShelf(s)) return refuse(BAD);
        Shelf shelf = shelves[s];
        if (holdsPart(shelf)) return refuse(OTHER);
        if (holdsNothing(shelf)) return refuse(NOTHING);
        if (i < 0 || i >= shelf.size) return refuse(BAD);
        shelf.put(i, v);
        return 1;
    }

    public int copy(int p, int q, int i, int j, int n) {
        if (!isShelf(p) || !isShelf(q)) return refuse(BAD);
        Shelf source = shelves[p];
        Shelf target = shelves[q];
        if (holdsPart(source) || holdsPart(target)) return refuse(OTHER);
        boolean oneIsEmpty = holdsNothing(source) || holdsNothing(target);
        if (!oneIsEmpty && source.held != target.held) return refuse(OTHER);
        if (oneIsEmpty) return refuse(NOTHING);
        if (!isStretch(i, n, source.size) || !isStretch(j, n, target.size)) return refuse(BAD);
        target.takeFrom(source, i, j, n);
        return n;
    }

    public long element(int s, int i) {
        Shelf shelf = isShelf(s) ? shelves[s] : null;
        return holdsRow(shelf) ? shelf.at(i) : 0L;
    }

    public int holds(int s) {
        Shelf shelf = isShelf(s) ? shelves[s] : null;
        return shelf == null ? NONE : shelf.held;
    }

    public int show(int s, int edit, int i) {
        if (!isShelf(s) || edit != NONE && !isNumber(edit)) return refuse(BAD);
        if (edit == NONE) {
            shelfToFill(s).holdNothing();
            return 1;
        }
        Edit shown = numbered(edit);
        if (shown == null) return refuse(NOTHING);
        if (i < 0 || i >= shown.count()) return refuse(BAD);
        shelfToFill(s).holdPart(shown, i);
        return 1;
    }

    public int says(int s, int kind) {
        if (!isShelf(s) || kind < PART || kind > MARK) return refuse(BAD);
        Shelf shelf = shelves[s];
        if (holdsRow(shelf)) return refuse(OTHER);
        if (holdsNothing(shelf)) return refuse(NOTHING);
        if (!isUnder(shelf.kind(), kind)) return refuse(OTHER);
        return shelf.answersAs(kind);
    }

    private static boolean isShelf(int s) {
        return s >= 0 && s < SHELVES;
    }

    private Shelf shelfToFill(int s) {
        if (!isShelf(s)) return new Shelf();
        if (shelves[s] == null) shelves[s] = new Shelf();
        return shelves[s];
    }

    private static boolean holdsNothing(Shelf shelf) {
        return shelf == null || shelf.held == NONE;
    }

    private static boolean holdsRow(Shelf shelf) {
        return shelf != null && shelf.held >= 0 && shelf.held < SORTS;
    }

    private static boolean holdsPart(Shelf shelf) {
        return shelf != null && shelf.held >= Shelf.PART_FROM;
    }

    private static boolean isStretch(int start, int n, long size) {
        return n >= 0 && n <= size && start >= 0 && start <= size - n;
    }

    /** Texts may grow longer than an int tells; then it tells the most that it can. */
    private static int told(long n) {
        return (int) Math.min(n, Integer.MAX_VALUE);
    }

    private static boolean isUnder(int kind, int asked) {
        if (asked == PART || asked == kind) return true;
        if (asked == OVER) return kind == KEEP || kind == DELETE || kind == MARK;
        return asked == KEEP && kind == MARK;
    }

    // ---------------------------------------------------------------- the tape

    public int feed(int letter) {
        if (letter < 0 || letter > 255) return refuse(BAD);
        if (tape.bytes.size >= TAPE_MOST) return refuse(FULL);
        tape.bytes.add(letter);
        return tape.bytes.size;
    }

    public int wipe() {
        int ahead = tape.bytes.size;
        tape.bytes.clear();
        return ahead;
    }

    public int edit(int edit) {
        int fault = isNumber(edit) ? tape.reads(draft) : NONE;
        tape.bytes.clear();
        if (!isNumber(edit)) return refuse(BAD);
        if (fault != NONE) {
            refuse(BAD);
            return -300 - fault;
        }
        return keepDraft(edit);
    }

    // ---------------------------------------------------------------- edits by number

    public int of(int edit, int what) {
        if (!isNumber(edit) || what < 0 || what > 5) return refuse(BAD);
        Edit asked = numbered(edit);
        if (asked == null) return refuse(NOTHING);
        switch (what) {
            case 0: return asked.count();
            case 1: return told(asked.from);
            case 2: return told(asked.to);
            case 3: return told(asked.allOf(INSERT));
            case 4: return told(asked.allOf(DELETE));
            default: return told(asked.allOf(MARK));
        }
    }

    public int part(int edit, int i, int what) {
        if (!isNumber(edit) || what < 0 || what > 3) return refuse(BAD);
        Edit asked = numbered(edit);
        if (asked == null) return refuse(NOTHING);
        if (i < 0 || i >= asked.count()) return refuse(BAD);
        switch (what) {
            case 0: return asked.kindAt(i);
            case 1: return told(asked.sizeAt(i));
            case 2: return asked.onAt(i);
            default: return asked.offAt(i);
        }
    }

    public int letter(int edit, int i, int k) {
        if (!isNumber(edit)) return refuse(BAD);
        Edit asked = numbered(edit);
        if (asked == null) return refuse(NOTHING);
        if (i < 0 || i >= asked.count()) return refuse(BAD);
        if (asked.kindAt(i) != INSERT) return refuse(OTHER);
        if (k < 0 || k >= asked.sizeAt(i)) return refuse(BAD);
        int found = letters.at(asked.rootAt(i), k);
        return (found & LETTER_MASK) + 100 * (found >> MARKS_AT);
    }

    public int spelled(int edit, int i) {
        if (!isNumber(edit)) return refuse(BAD);
        Edit asked = numbered(edit);
        if (asked == null) return refuse(NOTHING);
        return i < 0 ? NONE : asked.spelledAt(i, spelling);
    }

    public int behind(int edit, int a, int b) {
        if (!isNumber(edit) || !isNumber(a) || !isNumber(b)) return refuse(BAD);
        Edit ahead = numbered(a);
        Edit next = numbered(b);
        if (ahead == null || next == null) return refuse(NOTHING);
        if (next.from != ahead.to) return refuse(STUCK);
        loom.chain(ahead, next, draft);
        return draft.isTooBig() ? refuse(FULL) : keepDraft(edit);
    }

    public int over(int edit, int a, int b, int first) {
        if (!isNumber(edit) || !isNumber(a) || !isNumber(b)) return refuse(BAD);
        if (first < 0 || first > 1) return refuse(BAD);
        Edit taken = numbered(a);
        Edit other = numbered(b);
        if (taken == null || other == null) return refuse(NOTHING);
        if (taken.from != other.from) return refuse(STUCK);
        loom.carry(taken, other, first, draft);
        return draft.isTooBig() ? refuse(FULL) : keepDraft(edit);
    }

    public int turned(int edit, int a, int client) {
        Client owner = meeting.clientAt(client);
        if (!isNumber(edit) || !isNumber(a) || owner == null) return refuse(BAD);
        Edit ahead = numbered(a);
        if (ahead == null) return refuse(NOTHING);
        if (ahead.from != owner.text.to) return refuse(STUCK);
        loom.turn(ahead, owner.text, draft);
        return draft.isTooBig() ? refuse(FULL) : keepDraft(edit);
    }

    public int differ(int a, int b) {
        if (!isNumber(a) || !isNumber(b)) return refuse(BAD);
        Edit one = numbered(a);
        Edit two = numbered(b);
        if (one == null || two == null) return refuse(NOTHING);
        return one.firstUnlike(two);
    }

    private static boolean isNumber(int edit) {
        return edit >= 0 && edit < NUMBERS;
    }

    private Edit numbered(int edit) {
        return isNumber(edit) ? edits[edit] : null;
    }

    /** The draft becomes the edit of that number: how many parts it has. */
    private int keepDraft(int edit) {
        if (!isNumber(edit)) return 0;
        if (edits[edit] == null) edits[edit] = letters.newEdit();
        Edit kept = edits[edit];
        kept.take(draft);
        return kept.count();
    }

    // ---------------------------------------------------------------- what clients do

    public int does(int client, int edit) {
        Client doer = meeting.clientAt(client);
        if (doer == null || !isNumber(edit)) return refuse(BAD);
        Edit done = numbered(edit);
        if (done == null) return refuse(NOTHING);
        if (done.from != doer.text.to) return refuse(STUCK);
        if (doer.isTooLongBy(done)) return refuse(FULL);
        doer.doNew(done, loom);
        return told(doer.text.to);
    }

    public int insert(int client, int place, int letter, int marks) {
        Client doer = meeting.clientAt(client);
        if (doer == null || place < 0 || place > doer.text.to) return refuse(BAD);
        if (letter < 0 || letter >= LETTERS || marks < 0 || marks > ALL_BITS) return refuse(BAD);
        if (doer.text.to >= TEXT_MOST) return refuse(FULL);
        draftInsert(doer, place, letter | (marks << MARKS_AT));
        doer.doNew(draft, loom);
        return told(doer.text.to);
    }

    public int cut(int client, int place, int n) {
        Client doer = meeting.clientAt(client);
        if (doer == null || n < 1 || !isStretch(place, n, doer.text.to)) return refuse(BAD);
        draftOver(doer, place, n, DELETE, 0, 0);
        doer.doNew(draft, loom);
        return told(doer.text.to);
    }

    public int mark(int client, int place, int n, int bit, int is) {
        Client doer = meeting.clientAt(client);
        if (doer == null || n < 1 || !isStretch(place, n, doer.text.to)) return refuse(BAD);
        if (bit < 0 || bit >= BITS || is < 0 || is > 1) return refuse(BAD);
        draftOver(doer, place, n, MARK, is << bit, (1 - is) << bit);
        doer.doNew(draft, loom);
        // What turns it turns back the letters that had it otherwise, and those alone.
        Edit turned = doer.undos.latest();
        return turned == null ? 0 : told(turned.allOf(MARK));
    }

    public int undo(int client) {
        Client doer = meeting.clientAt(client);
        if (doer == null) return refuse(BAD);
        int why = whyNotAgain(doer, doer.undos);
        if (why != 0) return refuse(why);
        doer.doLatest(doer.undos, doer.redos, loom);
        return doer.undos.count;
    }

    public int redo(int client) {
        Client doer = meeting.clientAt(client);
        if (doer == null) return refuse(BAD);
        int why = whyNotAgain(doer, doer.redos);
        if (why != 0) return refuse(why);
        doer.doLatest(doer.redos, doer.undos, loom);
        return doer.redos.count;
    }

    public int point(int client, int place, int other) {
        Client asked = meeting.clientAt(client);
        if (asked == null) return refuse(BAD);
        long most = asked.text.to;
        if (place < 0 || place > most || other < 0 || other > most) return refuse(BAD);
        asked.place = place;
        asked.otherPlace = other;
        return 1;
    }

    private void draftInsert(Client doer, long place, int letter) {
        draft.begin();
        draft.goOver(KEEP, 0, 0, place);
        draft.putIn(letter);
        draft.goOver(KEEP, 0, 0, doer.text.to - place);
    }

    private void draftOver(Client doer, long place, int n, int kind, int on, int off) {
        draft.begin();
        draft.goOver(KEEP, 0, 0, place);
        draft.goOver(kind, on, off, n);
        draft.goOver(KEEP, 0, 0, doer.text.to - place - n);
    }

    /** STUCK or FULL, if the latest of these can't be done; else 0. */
    private static int whyNotAgain(Client doer, History history) {
        Edit latest = history.latest();
        if (latest == null) return STUCK;
        return doer.isTooLongBy(latest) ? FULL : 0;
    }

    // ---------------------------------------------------------------- server and clients

    public int serve(int client) {
        Client sender = meeting.clientAt(client);
        if (sender == null) return refuse(BAD);
        if (!sender.isUnserved()) return refuse(STUCK);
        if (meeting.count >= REVISIONS_MOST) return refuse(FULL);
        meeting.takeSent(client, loom);
        return meeting.count;
    }

    public int hear(int client) {
        Client hearer = meeting.clientAt(client);
        if (hearer == null) return refuse(BAD);
        if (hearer.revision >= meeting.count) return refuse(STUCK);
        hearer.hearNext(meeting.revisions, loom);
        return hearer.revision;
    }

    public int meet() {
        // What waits is sent by the first round and served by the next, so a few rounds do.
        for (int round = 0; round <= REVISIONS_MOST && !meeting.isSettled(); round++) {
            for (int c = 0; c < CLIENTS; c++) {
                Client sender = meeting.clientAt(c);
                if (sender == null || !sender.isUnserved()) continue;
                if (meeting.count >= REVISIONS_MOST) return refuse(FULL);
                meeting.takeSent(c, loom);
            }
            for (int c = 0; c < CLIENTS; c++) {
                Client hearer = meeting.clientAt(c);
                int behind = hearer == null ? 0 : meeting.count - hearer.revision;
                for (int k = 0; k < behind; k++) hearer.hearNext(meeting.revisions, loom);
            }
        }
        return meeting.count;
    }

    public int cursor(int client, int what) {
        Client asked = meeting.clientAt(client);
        if (asked == null || what < 0 || what > 1) return refuse(BAD);
        return told(what == 0 ? asked.place : asked.otherPlace);
    }

    public int clientOf(int client, int what) {
        Client asked = meeting.clientAt(client);
        if (asked == null || what < 0 || what > 6) return refuse(BAD);
        switch (what) {
            case 0: return asked.revision;
            case 1: return asked.hasSent ? asked.sent.count() : 0;
            case 2: return asked.hasSent && asked.isServed ? 1 : 0;
            case 3: return asked.hasWaiting ? asked.waiting.count() : 0;
            case 4: return asked.undos.count;
            case 5: return asked.redos.count;
            default: return meeting.count - asked.revision;
        }
    }

    public int takes(int edit, int client, int what) {
        Client asked = meeting.clientAt(client);
        if (!isNumber(edit) || asked == null || what < 0 || what > 3) return refuse(BAD);
        Edit found = asked.told(what);
        if (found == null) return refuse(STUCK);
        draft.like(found);
        return keepDraft(edit);
    }

    public int revision(int edit, int n) {
        if (!isNumber(edit) || n < 1 || n > meeting.count) return refuse(BAD);
        draft.like(meeting.revisions.slot(n - 1));
        keepDraft(edit);
        return meeting.revisions.clientAt(n - 1);
    }

    // ---------------------------------------------------------------- texts

    public int length(int client) {
        Edit asked = meeting.textAt(client);
        return asked == null ? refuse(BAD) : told(asked.to);
    }

    public int text(int client, int place, int what) {
        Edit asked = meeting.textAt(client);
        if (asked == null || place < 0 || place >= asked.to) return refuse(BAD);
        if (what < 0 || what > 1) return refuse(BAD);
        int found = letters.at(asked.rootAt(0), place);
        return what == 0 ? found & LETTER_MASK : found >> MARKS_AT;
    }

    public int apart(int client, int other) {
        Edit one = meeting.textAt(client);
        Edit two = meeting.textAt(other);
        if (one == null || two == null) return refuse(BAD);
        return told(letters.firstUnlike(one.rootAt(0), two.rootAt(0)));
    }

    public int marked(int client, int bit) {
        Edit asked = meeting.textAt(client);
        if (asked == null || bit < 0 || bit > BITS) return refuse(BAD);
        return letters.lettersMarked(asked.rootAt(0), bit);
    }

    public int judge(int client, int s, int n) {
        Edit asked = meeting.textAt(client);
        if (asked == null || !isShelf(s) || n < 0 || n > TOLD_MOST) return refuse(BAD);
        Shelf shelf = shelves[s];
        if (holdsPart(shelf)) return refuse(OTHER);
        if (holdsNothing(shelf)) return refuse(NOTHING);
        if (shelf.size < 2 * n) return refuse(BAD);
        int both = told(Math.min(n, asked.to));
        for (int i = 0; i < both; i++) {
            int found = letters.at(asked.rootAt(0), i);
            if (shelf.at(2 * i) != (found & LETTER_MASK)) return i;
            if (shelf.at(2 * i + 1) != found >> MARKS_AT) return i;
        }
        return asked.to == n ? NONE : both;
    }

    // ---------------------------------------------------------------- days by draws

    public int days(int n) {
        if (n < 1 || n > DAYS_MOST) return refuse(BAD);
        int busy = 0;
        for (int day = 0; day < n; day++) {
            int client = (int) meeting.draw(CLIENTS);
            int deed = (int) meeting.draw(8);
            Client doer = meeting.clientAt(client);
            if (doer == null || !canBe(doer, deed)) continue;
            busy++;
            if (deed <= 4) {
                draftByDraws(doer, deed);
                doer.doNew(draft, loom);
            } else if (deed == 5) {
                doer.doLatest(doer.undos, doer.redos, loom);
            } else if (deed == 6) {
                meeting.takeSent(client, loom);
            } else {
                doer.hearNext(meeting.revisions, loom);
            }
        }
        return busy;
    }

    public int seed(int v) {
        int ahead = meeting.seed;
        meeting.seed = v;
        return ahead;
    }

    /** Whether a deed of a day can be; what can't be draws nothing more. */
    private boolean canBe(Client doer, int deed) {
        if (deed <= 2) return doer.text.to < TEXT_MOST;
        if (deed <= 4) return doer.text.to > 0;
        if (deed == 5) return whyNotAgain(doer, doer.undos) == 0;
        if (deed == 6) return doer.isUnserved() && meeting.count < REVISIONS_MOST;
        return doer.revision < meeting.count;
    }

    /** A letter is inserted (0 to 2), deleted (3) or marked (4). */
    private void draftByDraws(Client doer, int deed) {
        if (deed <= 2) {
            int letter = (int) meeting.draw(LETTERS);
            draftInsert(doer, meeting.draw(doer.text.to + 1), letter);
            return;
        }
        long place = meeting.draw(doer.text.to);
        if (deed == 3) draftOver(doer, place, 1, DELETE, 0, 0);
        else draftOver(doer, place, 1, MARK, 1 << meeting.draw(BITS), 0);
    }

    // ---------------------------------------------------------------- kept and told

    public int image() {
        if (imaged == null) imaged = new Meeting(letters, meeting.revisions);
        imaged.like(meeting);
        return 1;
    }

    public int back() {
        if (imaged == null) return refuse(STUCK);
        meeting.like(imaged);
        return 1;
    }

    public int status(int what) {
        switch (what) {
            case 0: return meeting.count;
            case 1: return meeting.clientsAlike();
            case 2: return editsByNumber();
            case 3: return told(meeting.allLetters());
            case 4: return meeting.clientsSending();
            case 5: return tape.bytes.size;
            case 6: return meeting.seed;
            case 7: return shelvesInUse();
            default:
                int refusal = what - 12;
                return refusal >= 0 && refusal < refusals.length ? refusals[refusal] : NONE;
        }
    }

    private int editsByNumber() {
        int found = 0;
        for (int i = 0; i < edits.length; i++) {
            if (edits[i] != null) found++;
        }
        return found;
    }

    private int shelvesInUse() {
        int found = 0;
        for (int s = 0; s < shelves.length; s++) {
            if (!holdsNothing(shelves[s])) found++;
        }
        return found;
    }

    private int refuse(int why) {
        int i = BAD - why;
        if (i >= 0 && i < refusals.length) refusals[i]++;
        return why;
    }

    // ---------------------------------------------------------------- classes inside

    /** Numbers in a row that grows; a place that isn't in it reads 0 and takes nothing. */
    private static final class Row {
        private static final int SIZE_MOST = 1 << 21;

        private final Letters letters;
        private long[] cells = new long[4];
        private int size;

        Row(Letters store) {
            letters = store;
        }

        long at(int i) {
            return i >= 0 && i < size && i < cells.length ? cells[i] : 0L;
        }

        void put(int i, long v) {
            if (i >= 0 && i < size && i < cells.length) cells[i] = v;
        }

        void add(long v) {
            if (size >= cells.length) {
                if (size >= SIZE_MOST || !letters.lendsRoom(cells.length)) return;
                cells = Arrays.copyOf(cells, 2 * cells.length);
            }
            if (size >= 0 && size < cells.length) cells[size++] = v;
        }

        void clear() {
            size = 0;
        }

        void like(Row other) {
            int wanted = Math.max(other.size, 2 * cells.length);
            if (other.size > cells.length && letters.lendsRoom(wanted - cells.length)) cells = new long[wanted];
            size = Math.min(other.size, cells.length);
            System.arraycopy(other.cells, 0, cells, 0, size);
        }

        /** Becomes like the other one, whose content is needed no more: they change their cells. */
        void take(Row other) {
            // Where much was held lately, the little that is held now doesn't take all that room along.
            if (other.cells.length > 8 * other.size + 64) {
                like(other);
                return;
            }
            long[] hisCells = other.cells;
            int hisSize = other.size;
            other.cells = cells;
            other.size = size;
            cells = hisCells;
            size = hisSize;
        }
    }

    /**
     * Letters in a row are the leaves of a balanced tree, told by its root. A tree never changes, so
     * trees share branches: clients that each replace the whole text make it four times as long in a
     * few calls, and again, but a text that holds another one four times takes hardly more room. A
     * letter with its marks is its own root; the branches come behind these, each behind its own two.
     */
    private static final class Letters {
        private static final int EMPTY = -1;
        private static final int LEAVES = (ALL_BITS + 1) << MARKS_AT;
        /** The marks of a branch whose letters don't all have the same ones. */
        private static final int MIXED = ALL_BITS + 1;
        private static final int HEIGHT_MOST = 128;
        private static final long STEPS_MOST = 1L << 28;
        private static final int ROOM_FIRST = 2 * LEAVES;
        private static final int ROOM_MOST = 1 << 20;
        /** How many numbers all rows together may hold. */
        private static final int ROWS_MOST = 1 << 24;
        /** More than one join or one branch anew can need. */
        private static final int ROOM_AHEAD = 4 * HEIGHT_MOST;
        /** These spread pairs over the known branches. */
        private static final int PAIR_ONE = 0x9E3779B1;
        private static final int PAIR_TWO = 0x85EBCA77;
        private static final int PAIR_SHIFT = 8;

        private final ArrayList<Edit> holders = new ArrayList<>();
        private final int[] path = new int[HEIGHT_MOST];
        private final int[] trail = new int[HEIGHT_MOST];
        private int[] left = new int[ROOM_FIRST];
        private int[] right = new int[ROOM_FIRST];
        private long[] sizes = new long[ROOM_FIRST];
        private int[] heights = new int[ROOM_FIRST];
        private int[] marks = new int[ROOM_FIRST];
        private int[] stamps = new int[ROOM_FIRST];
        private int[] images = new int[ROOM_FIRST];
        /** Branches at slots told by their two; 0: none. Half of it at least is empty. */
        private int[] known = new int[2 * ROOM_FIRST];
        private int roomLeft = ROWS_MOST;
        private int stamp;
        private int used = LEAVES;
        private int usedTillTidied = ROOM_FIRST;

        Letters() {
            for (int leaf = 0; leaf < LEAVES && leaf < ROOM_FIRST; leaf++) {
                sizes[leaf] = 1;
                marks[leaf] = leaf >> MARKS_AT;
            }
        }

        /** Every edit is made here, so that its letters can be found when the trees are moved. */
        Edit newEdit() {
            Edit made = new Edit(this);
            holders.add(made);
            return made;
        }

        /** Rows ask ahead of growing by so many, since a run of calls lives in one room. */
        boolean lendsRoom(int numbers) {
            if (numbers < 0 || numbers > roomLeft) return false;
            roomLeft -= numbers;
            return true;
        }

        private boolean isRoot(int node) {
            return node >= 0 && node < used && node < left.length;
        }

        private boolean isBranch(int node) {
            return node >= LEAVES && node < used && node < left.length;
        }

        long size(int root) {
            return isRoot(root) ? sizes[root] : 0L;
        }

        /** The letter at a place, with its marks. */
        int at(int root, long place) {
            int node = root;
            long inside = place;
            for (int depth = 0; depth < HEIGHT_MOST && isBranch(node); depth++) {
                long ahead = size(left[node]);
                if (inside < ahead) {
                    node = left[node];
                } else {
                    inside -= ahead;
                    node = right[node];
                }
            }
            return node >= 0 && node < LEAVES ? node : 0;
        }

        /** From a place on: how many letters at least have its marks; in the lowest bits these. */
        long runAt(int root, long place) {
            int node = root;
            long inside = place;
            for (int depth = 0; depth < HEIGHT_MOST && isBranch(node) && marks[node] == MIXED; depth++) {
                long ahead = size(left[node]);
                if (inside < ahead) {
                    node = left[node];
                } else {
                    inside -= ahead;
                    node = right[node];
                }
            }
            if (!isRoot(node)) return 1L << BITS;
            return ((sizes[node] - inside) << BITS) | (marks[node] & ALL_BITS);
        }

        int join(int one, int two) {
            if (!isRoot(one)) return two;
            if (!isRoot(two)) return one;
            makeRoom();
            boolean isDownLeft = heights[one] > heights[two];
            int low = isDownLeft ? heights[two] : heights[one];
            int node = isDownLeft ? one : two;
            int depth;
            for (depth = 0; depth < HEIGHT_MOST && isBranch(node) && heights[node] > low + 1; depth++) {
                path[depth] = node;
                node = isDownLeft ? right[node] : left[node];
            }
            int made = isDownLeft ? branch(node, two) : branch(one, node);
            for (int i = depth - 1; i >= 0; i--) {
                int above = path[i];
                made = isDownLeft ? balanced(left[above], made) : balanced(made, right[above]);
            }
            return made;
        }

        /** A branch of two whose heights are at most 2 apart. */
        private int balanced(int one, int two) {
            if (!isRoot(one) || !isRoot(two)) return one;
            if (isBranch(two) && heights[two] > heights[one] + 1) {
                int inner = left[two];
                int outer = right[two];
                if (heights[inner] <= heights[outer]) return branch(branch(one, inner), outer);
                return branch(branch(one, left[inner]), branch(right[inner], outer));
            }
            if (isBranch(one) && heights[one] > heights[two] + 1) {
                int inner = right[one];
                int outer = left[one];
                if (heights[inner] <= heights[outer]) return branch(outer, branch(inner, two));
                return branch(branch(outer, left[inner]), branch(right[inner], two));
            }
            return branch(one, two);
        }

        /** The branch of these two, made once alone; so trees made alike share it. */
        private int branch(int one, int two) {
            if (one < 0 || two < 0 || one >= used || two >= used || used >= left.length) return one;
            int mask = known.length - 1;
            int slot = ((one * PAIR_ONE + two * PAIR_TWO) >>> PAIR_SHIFT) & mask;
            for (int probe = 0; probe < mask && known[slot] != 0; probe++) {
                int found = known[slot];
                if (left[found] == one && right[found] == two) return found;
                slot = (slot + 1) & mask;
            }
            known[slot] = used;
            left[used] = one;
            right[used] = two;
            sizes[used] = sizes[one] + sizes[two];
            heights[used] = 1 + (heights[one] > heights[two] ? heights[one] : heights[two]);
            marks[used] = marks[one] == marks[two] ? marks[one] : MIXED;
            return used++;
        }

        /** Some letters of a tree: the greatest branches within them are joined, one by one. */
        int slice(int root, long start, long n) {
            if (!isRoot(root) || start == 0 && n == sizes[root]) return root;
            int made = EMPTY;
            int top = 0;
            trail[top++] = root;
            long place = 0;
            for (int step = 0; step < 4 * HEIGHT_MOST && top > 0; step++) {
                int node = trail[--top];
                long behind = place + size(node);
                boolean isOutside = behind <= start || place >= start + n;
                if (isOutside || place >= start && behind <= start + n) {
                    if (!isOutside) made = join(made, node);
                    place = behind;
                } else if (isBranch(node) && top + 1 < HEIGHT_MOST) {
                    trail[top++] = right[node];
                    trail[top++] = left[node];
                }
            }
            return made;
        }

        private static int turnLeaf(int leaf, int on, int off) {
            return (leaf | (on << MARKS_AT)) & ~(off << MARKS_AT);
        }

        /** All letters of a tree with some marks turned; each branch is made once alone. */
        int turnAll(int root, int on, int off) {
            if (!isRoot(root) || (on | off) == 0) return root;
            stamp++;
            int top = 0;
            trail[top++] = root;
            int steps = 4 * used;
            for (int step = 0; step < steps && top > 0; step++) {
                int node = trail[top - 1];
                if (isTurned(node, on, off)) {
                    top--;
                } else if (!isTurned(left[node], on, off) && top < HEIGHT_MOST) {
                    trail[top++] = left[node];
                } else if (!isTurned(right[node], on, off) && top < HEIGHT_MOST) {
                    trail[top++] = right[node];
                } else {
                    makeRoom();
                    images[node] = branch(images[left[node]], images[right[node]]);
                    stamps[node] = stamp;
                    top--;
                }
            }
            return images[root];
        }

        /** Whether it is known what becomes of a node. Of a leaf that is known at once. */
        private boolean isTurned(int node, int on, int off) {
            if (!isRoot(node) || stamps[node] == stamp) return true;
            if (isBranch(node)) return false;
            images[node] = turnLeaf(node, on, off);
            stamps[node] = stamp;
            return true;
        }

        /** Letters (bits) with a mark; bit 4: with none at all. */
        int lettersMarked(int root, int bit) {
            if (!isRoot(root)) return 0;
            stamp++;
            int found = 0;
            int top = 0;
            trail[top++] = root;
            for (int step = 0; step <= 2 * used && top > 0; step++) {
                int node = trail[--top];
                if (isBranch(node)) {
                    if (stamps[node] == stamp || top + 1 >= HEIGHT_MOST) continue;
                    stamps[node] = stamp;
                    trail[top++] = right[node];
                    trail[top++] = left[node];
                } else {
                    int has = node >> MARKS_AT;
                    boolean fits = bit == BITS ? has == 0 : ((has >> bit) & 1) == 1;
                    if (fits) found |= 1 << (node & LETTER_MASK);
                }
            }
            return found;
        }

        /** The first place at which two differ, or one ends; NONE. What both share isn't gone into. */
        long firstUnlike(int one, int two) {
            long place = 0;
            int top = 0;
            int otherTop = 0;
            if (isRoot(one)) path[top++] = one;
            if (isRoot(two)) trail[otherTop++] = two;
            for (long step = 0; step < STEPS_MOST && top > 0 && otherTop > 0; step++) {
                int node = path[top - 1];
                int other = trail[otherTop - 1];
                if (node == other) {
                    place += size(node);
                    top--;
                    otherTop--;
                } else if (isBranch(node) && size(node) >= size(other) && top < HEIGHT_MOST) {
                    path[top - 1] = right[node];
                    path[top++] = left[node];
                } else if (isBranch(other) && otherTop < HEIGHT_MOST) {
                    trail[otherTop - 1] = right[other];
                    trail[otherTop++] = left[other];
                } else {
                    return place;
                }
            }
            return top == 0 && otherTop == 0 ? NONE : place;
        }

        private void makeRoom() {
            int room = left.length;
            if (used + ROOM_AHEAD <= room || room >= ROOM_MOST) return;
            left = Arrays.copyOf(left, 2 * room);
            right = Arrays.copyOf(right, 2 * room);
            sizes = Arrays.copyOf(sizes, 2 * room);
            heights = Arrays.copyOf(heights, 2 * room);
            marks = Arrays.copyOf(marks, 2 * room);
            stamps = Arrays.copyOf(stamps, 2 * room);
            images = Arrays.copyOf(images, 2 * room);
            known = new int[4 * room];
            knowAll();
        }

        private void knowAll() {
            int mask = known.length - 1;
            for (int node = LEAVES; node < used; node++) {
                int slot = ((left[node] * PAIR_ONE + right[node] * PAIR_TWO) >>> PAIR_SHIFT) & mask;
                for (int probe = 0; probe < mask && known[slot] != 0; probe++) slot = (slot + 1) & mask;
                known[slot] = node;
            }
        }

        /** Throws away the branches that no edit holds, if many were made. No root but theirs lasts. */
        void tidy() {
            if (used < usedTillTidied) return;
            Arrays.fill(images, 0);
            for (int e = 0; e < holders.size(); e++) reach(holders.get(e));
            for (int node = used - 1; node >= LEAVES; node--) {
                if (images[node] == 0) continue;
                images[left[node]] = 1;
                images[right[node]] = 1;
            }
            moveTogether();
            Arrays.fill(known, 0);
            knowAll();
            for (int e = 0; e < holders.size(); e++) move(holders.get(e));
            usedTillTidied = used + Math.min(Math.max(used, ROOM_FIRST / 2), ROOM_MOST / 16);
        }

        private void reach(Edit edit) {
            for (int i = 0; i < edit.count() && edit.hasInserts; i++) {
                int root = edit.rootAt(i);
                if (isBranch(root)) images[root] = 1;
            }
        }

        private void move(Edit edit) {
            for (int i = 0; i < edit.count() && edit.hasInserts; i++) {
                int root = edit.rootAt(i);
                if (root >= LEAVES && root < images.length) edit.putRoot(i, images[root]);
            }
        }

        /** What was reached moves to the front, its order kept; images tell where to. */
        private void moveTogether() {
            for (int leaf = 0; leaf < LEAVES; leaf++) images[leaf] = leaf;
            int kept = LEAVES;
            for (int node = LEAVES; node < used; node++) {
                if (images[node] == 0) continue;
                left[kept] = images[left[node]];
                right[kept] = images[right[node]];
                sizes[kept] = sizes[node];
                heights[kept] = heights[node];
                marks[kept] = marks[node];
                images[node] = kept++;
            }
            used = kept;
        }
    }

    /**
     * An edit, kept plain at every step of its making. A text, too, is an edit: of nothing, with one
     * insert or none.
     */
    private static final class Edit {
        private final Letters letters;
        private final Row parts;
        private boolean hasInserts;
        private long from;
        private long to;

        Edit(Letters store) {
            letters = store;
            parts = new Row(store);
        }

        void begin() {
            parts.clear();
            hasInserts = false;
            from = 0;
            to = 0;
        }

        int count() {
            return parts.size;
        }

        int kindAt(int i) {
            return (int) (parts.at(i) >> KIND_AT) & KIND_MASK;
        }

        /** What an insert inserts. */
        int rootAt(int i) {
            long part = parts.at(i);
            boolean isInsert = ((part >> KIND_AT) & KIND_MASK) == INSERT;
            return isInsert ? (int) (part >> SIZE_AT) : Letters.EMPTY;
        }

        void putRoot(int i, int root) {
            parts.put(i, ((long) root << SIZE_AT) | (INSERT << KIND_AT));
        }

        long sizeAt(int i) {
            return kindAt(i) == INSERT ? letters.size(rootAt(i)) : parts.at(i) >> SIZE_AT;
        }

        int onAt(int i) {
            return (int) (parts.at(i) >> ON_AT) & ALL_BITS;
        }

        int offAt(int i) {
            return (int) parts.at(i) & ALL_BITS;
        }

        int firstLetterAt(int i) {
            return letters.at(rootAt(i), 0) & LETTER_MASK;
        }

        /** Goes over n letters more (not with an insert); a mark that turns no bit is a keep. */
        void goOver(int kind, int on, int off, long n) {
            if (n < 1) return;
            int plainKind = kind == MARK && (on | off) == 0 ? KEEP : kind;
            int sort = (plainKind << KIND_AT) | (on << ON_AT) | off;
            long last = parts.at(parts.size - 1);
            if ((last & SORT_MASK) == sort) parts.put(parts.size - 1, last + (n << SIZE_AT));
            else parts.add(sort | (n << SIZE_AT));
            from += n;
            if (kind != DELETE) to += n;
        }

        /** Inserts letters; behind a delete they go ahead of that. */
        void putIn(int root) {
            long n = letters.size(root);
            if (n < 1) return;
            hasInserts = true;
            to += n;
            int last = parts.size - 1;
            int ahead = kindAt(last) == DELETE ? last - 1 : last;
            if (kindAt(ahead) == INSERT) {
                putRoot(ahead, letters.join(rootAt(ahead), root));
                return;
            }
            long deleted = parts.at(last);
            parts.add(deleted);
            putRoot(ahead + 1, root);
        }

        void like(Edit other) {
            parts.like(other.parts);
            hasInserts = other.hasInserts;
            from = other.from;
            to = other.to;
        }

        /** Becomes like the other one, which is needed no more. */
        void take(Edit other) {
            parts.take(other.parts);
            hasInserts = other.hasInserts;
            from = other.from;
            to = other.to;
            other.begin();
        }

        long allOf(int kind) {
            long found = 0;
            for (int i = 0; i < parts.size; i++) {
                if (kindAt(i) == kind) found += sizeAt(i);
            }
            return found;
        }

        boolean isTooBig() {
            return from > LENGTH_MOST || to > LENGTH_MOST || allOf(INSERT) > INSERTED_MOST;
        }

        int firstUnlike(Edit other) {
            int both = Math.min(parts.size, other.parts.size);
            for (int i = 0; i < both; i++) {
                boolean areInserts = kindAt(i) == INSERT && other.kindAt(i) == INSERT;
                if (areInserts && letters.firstUnlike(rootAt(i), other.rootAt(i)) != NONE) return i;
                if (!areInserts && parts.at(i) != other.parts.at(i)) return i;
            }
            return parts.size == other.parts.size ? NONE : both;
        }

        /**
         * Where a place goes. All is told by places of the old text: as the edit is plain, nothing
         * is inserted behind what is deleted, so both lie as they do while the text changes.
         */
        long placeAfter(long place, boolean isOwn) {
            long moved = place;
            long old = 0;
            for (int i = 0; i < parts.size; i++) {
                long n = sizeAt(i);
                int kind = kindAt(i);
                if (kind == INSERT) {
                    if (old < place || isOwn && old == place) moved += n;
                    continue;
                }
                if (kind == DELETE && old < place) moved -= Math.min(n, place - old);
                old += n;
            }
            return moved;
        }

        /** The i-th sign of it spelled; NONE behind its end. */
        int spelledAt(int i, Row spelling) {
            long ahead = i;
            for (int p = 0; p < parts.size; p++) {
                spelling.clear();
                spellPart(p, spelling);
                if (ahead < spelling.size) return (int) spelling.at((int) ahead);
                ahead -= spelling.size;
                if (kindAt(p) != INSERT) continue;
                if (ahead < sizeAt(p)) return 'a' + (letters.at(rootAt(p), ahead) & LETTER_MASK);
                ahead -= sizeAt(p);
            }
            return NONE;
        }

        /** All of a part, but for the letters of an insert. */
        private void spellPart(int i, Row out) {
            int on = onAt(i);
            int off = offAt(i);
            switch (kindAt(i)) {
                case INSERT:
                    out.add('+');
                    return;
                case MARK:
                    out.add(on != 0 ? '^' : '_');
                    spellNumber(out, sizeAt(i));
                    out.add('.');
                    spellNumber(out, on != 0 ? on : off);
                    if (on == 0 || off == 0) return;
                    out.add('_');
                    spellNumber(out, off);
                    return;
                default:
                    out.add(kindAt(i) == KEEP ? '=' : '-');
                    spellNumber(out, sizeAt(i));
            }
        }

        private static void spellNumber(Row out, long n) {
            boolean isBegun = false;
            for (long power = 1000000000000000000L; power > 0; power /= 10) {
                long digit = (n / power) % 10;
                isBegun = isBegun || digit != 0;
                if (isBegun) out.add('0' + digit);
            }
        }
    }

    /** Goes along the parts of an edit, some letters at once; at its end kind is PART, left 0. */
    private static final class Walk {
        private Edit edit;
        private int i;
        private int kind;
        private long done;
        private long left;
        private int on;
        private int off;

        void start(Edit walked) {
            edit = walked;
            i = -1;
            enterNext();
        }

        void go(long n) {
            done += n;
            left -= n;
            if (left <= 0) enterNext();
        }

        /** What it inserts here; asked anew each time, as trees are moved. */
        int root() {
            return edit == null ? Letters.EMPTY : edit.rootAt(i);
        }

        private void enterNext() {
            if (edit == null) return;
            i++;
            long part = edit.parts.at(i);
            kind = (int) (part >> KIND_AT) & KIND_MASK;
            done = 0;
            left = kind == INSERT ? edit.letters.size((int) (part >> SIZE_AT)) : part >> SIZE_AT;
            on = (int) (part >> ON_AT) & ALL_BITS;
            off = (int) part & ALL_BITS;
        }
    }

    /** Weaves edits; the edits that it needs for that are its own, to be used again and again. */
    private static final class Loom {
        private static final int STEPS_MOST = 1 << 23;

        private final Letters letters;
        private final Walk one = new Walk();
        private final Walk two = new Walk();
        private final Edit woven;
        private final Edit other;
        private final Edit coming;
        private final Edit came;

        Loom(Letters store) {
            letters = store;
            woven = letters.newEdit();
            other = letters.newEdit();
            coming = letters.newEdit();
            came = letters.newEdit();
        }

        /** b behind a. Each step ends a part of one of them. */
        void chain(Edit a, Edit b, Edit out) {
            out.begin();
            one.start(a);
            two.start(b);
            int steps = a.count() + b.count();
            for (int step = 0; step < steps; step++) {
                letters.tidy();
                if (one.kind == DELETE) {
                    out.goOver(DELETE, 0, 0, one.left);
                    one.go(one.left);
                    continue;
                }
                if (two.kind == INSERT) {
                    out.putIn(two.root());
                    two.go(two.left);
                    continue;
                }
                long n = Math.min(one.left, two.left);
                if (two.kind == DELETE) {
                    if (one.kind != INSERT) out.goOver(DELETE, 0, 0, n);
                } else if (one.kind == INSERT) {
                    int kept = letters.slice(one.root(), one.done, n);
                    out.putIn(letters.turnAll(kept, two.on, two.off));
                } else {
                    out.goOver(MARK, (one.on & ~two.off) | two.on, (one.off & ~two.on) | two.off, n);
                }
                one.go(n);
                two.go(n);
            }
        }

        /** a over b. Each step ends a part of one of them. */
        void carry(Edit a, Edit b, int first, Edit out) {
            out.begin();
            one.start(a);
            two.start(b);
            int steps = a.count() + b.count();
            for (int step = 0; step < steps; step++) {
                letters.tidy();
                if (one.kind == INSERT && (first == 1 || two.kind != INSERT)) {
                    out.putIn(one.root());
                    one.go(one.left);
                } else if (two.kind == INSERT) {
                    out.goOver(KEEP, 0, 0, two.left);
                    two.go(two.left);
                } else {
                    long n = Math.min(one.left, two.left);
                    int spared = first == 1 ? two.on | two.off : 0;
                    if (two.kind != DELETE) out.goOver(one.kind, one.on & ~spared, one.off & ~spared, n);
                    one.go(n);
                    two.go(n);
                }
            }
        }

        /** What brings the text back from what the edit makes of it. */
        void turn(Edit edit, Edit text, Edit out) {
            out.begin();
            long place = 0;
            for (int i = 0; i < edit.count(); i++) {
                letters.tidy();
                int root = text.rootAt(0);
                int kind = edit.kindAt(i);
                long n = edit.sizeAt(i);
                if (kind == INSERT) {
                    out.goOver(DELETE, 0, 0, n);
                    continue;
                }
                if (kind == DELETE) out.putIn(letters.slice(root, place, n));
                else if (kind == KEEP) out.goOver(KEEP, 0, 0, n);
                else turnMark(root, place, n, edit.onAt(i), edit.offAt(i), out);
                place += n;
            }
        }

        /** Turns a mark: letters that have the same marks at once, as far as one branch tells them. */
        private void turnMark(int root, long place, long n, int on, int off, Edit out) {
            long done = 0;
            for (int step = 0; step < STEPS_MOST && done < n; step++) {
                long run = letters.runAt(root, place + done);
                int had = (int) run & ALL_BITS;
                long same = Math.min(run >> BITS, n - done);
                out.goOver(MARK, off & had, on & ~had, same);
                done += same;
            }
            out.goOver(KEEP, 0, 0, n - done);
        }

        /** The edit and the coming one pass each other: each becomes what it is over the other. */
        void cross(Edit edit) {
            if (edit == null) return;
            carry(edit, coming, 0, woven);
            carry(coming, edit, 1, other);
            edit.take(woven);
            coming.take(other);
        }
    }

    /** Edits to undo or to redo; when there are too many, the oldest edit's place is used again. */
    private static final class History {
        private final Edit[] kept = new Edit[KEPT_MOST];
        private final Letters letters;
        private int count;

        History(Letters store) {
            letters = store;
        }

        Edit at(int i) {
            return i >= 0 && i < count && i < kept.length ? kept[i] : null;
        }

        Edit latest() {
            return at(count - 1);
        }

        void drop() {
            if (count > 0) count--;
        }

        void clear() {
            count = 0;
        }

        /** A new latest edit, to be filled. */
        Edit fresh() {
            if (count < kept.length) count++;
            else putOldestLast();
            int i = count - 1;
            if (i < 0 || i >= kept.length) return letters.newEdit();
            if (kept[i] == null) kept[i] = letters.newEdit();
            return kept[i];
        }

        private void putOldestLast() {
            for (int i = 1; i < kept.length; i++) {
                Edit oldest = kept[i - 1];
                kept[i - 1] = kept[i];
                kept[i] = oldest;
            }
        }

        void like(History other) {
            clear();
            for (int i = 0; i < other.count; i++) {
                Edit his = other.at(i);
                if (his != null) fresh().like(his);
            }
        }
    }

    private static final class Client {
        private final int number;
        private final Edit text;
        private final Edit sent;
        private final Edit waiting;
        private final History undos;
        private final History redos;
        private boolean hasSent;
        private boolean isServed;
        private boolean hasWaiting;
        private int revision;
        private long place;
        private long otherPlace;

        Client(int ownNumber, Letters letters) {
            number = ownNumber;
            text = letters.newEdit();
            sent = letters.newEdit();
            waiting = letters.newEdit();
            undos = new History(letters);
            redos = new History(letters);
        }

        boolean isUnserved() {
            return hasSent && !isServed;
        }

        boolean isTooLongBy(Edit edit) {
            return edit.to > TEXT_MOST && edit.to > text.to;
        }

        /** What is sent, what waits, the latest to undo, to redo; null where there is none. */
        Edit told(int what) {
            switch (what) {
                case 0: return hasSent ? sent : null;
                case 1: return hasWaiting ? waiting : null;
                case 2: return undos.latest();
                default: return redos.latest();
            }
        }

        void doNew(Edit edit, Loom loom) {
            loom.turn(edit, text, undos.fresh());
            redos.clear();
            change(edit, true, loom);
            send(edit, loom);
        }

        /** The latest of one history is done; what turns it goes to the other one. */
        void doLatest(History history, History opposite, Loom loom) {
            Edit edit = history.latest();
            if (edit == null) return;
            history.drop();
            loom.turn(edit, text, opposite.fresh());
            change(edit, true, loom);
            send(edit, loom);
        }

        private void change(Edit edit, boolean isOwn, Loom loom) {
            loom.chain(text, edit, loom.woven);
            text.take(loom.woven);
            place = edit.placeAfter(place, isOwn);
            otherPlace = edit.placeAfter(otherPlace, isOwn);
        }

        private void send(Edit edit, Loom loom) {
            if (!hasSent) {
                sent.like(edit);
                hasSent = true;
                isServed = false;
            } else if (!hasWaiting) {
                waiting.like(edit);
                hasWaiting = true;
            } else {
                loom.chain(waiting, edit, loom.woven);
                waiting.take(loom.woven);
            }
        }

        void hearNext(Revisions all, Loom loom) {
            boolean isOwn = all.clientAt(revision) == number;
            Edit heard = all.slot(revision);
            revision++;
            if (isOwn) {
                sendWaiting();
                return;
            }
            loom.coming.like(heard);
            if (hasSent) loom.cross(sent);
            if (hasWaiting) loom.cross(waiting);
            change(loom.coming, false, loom);
            loom.came.like(loom.coming);
            for (int i = undos.count - 1; i >= 0; i--) loom.cross(undos.at(i));
            loom.coming.like(loom.came);
            for (int i = redos.count - 1; i >= 0; i--) loom.cross(redos.at(i));
        }

        private void sendWaiting() {
            hasSent = hasWaiting;
            isServed = false;
            if (hasWaiting) sent.take(waiting);
            hasWaiting = false;
        }

        void like(Client other) {
            text.like(other.text);
            sent.like(other.sent);
            waiting.like(other.waiting);
            undos.like(other.undos);
            redos.like(other.redos);
            hasSent = other.hasSent;
            isServed = other.isServed;
            hasWaiting = other.hasWaiting;
            revision = other.revision;
            place = other.place;
            otherPlace = other.otherPlace;
        }
    }

    /** The server's revisions and whose they are; how many of them hold, a meeting knows. */
    private static final class Revisions {
        private final Edit[] edits = new Edit[REVISIONS_MOST];
        private final int[] clients = new int[REVISIONS_MOST];
        private final Letters letters;

        Revisions(Letters store) {
            letters = store;
        }

        Edit slot(int i) {
            if (i < 0 || i >= edits.length) return letters.newEdit();
            if (edits[i] == null) edits[i] = letters.newEdit();
            return edits[i];
        }

        int clientAt(int i) {
            return i >= 0 && i < clients.length ? clients[i] : NONE;
        }

        void sign(int i, int client) {
            if (i >= 0 && i < clients.length) clients[i] = client;
        }
    }

    /**
     * The server and its clients: all that an image keeps. A meeting and its image share the
     * revisions, since those that the image counts stay as they are till another image is made.
     */
    private static final class Meeting {
        private final Revisions revisions;
        private final Client[] clients = new Client[CLIENTS];
        private final Edit server;
        private final Letters letters;
        private int count;
        private int seed = 1;

        Meeting(Letters store, Revisions shared) {
            letters = store;
            revisions = shared;
            server = letters.newEdit();
            for (int c = 0; c < clients.length; c++) clients[c] = new Client(c, letters);
        }

        Client clientAt(int c) {
            return c >= 0 && c < clients.length ? clients[c] : null;
        }

        Edit textAt(int c) {
            if (c == SERVER) return server;
            Client client = clientAt(c);
            return client == null ? null : client.text;
        }

        /**
         * What is sent becomes the next revision. As the client has taken it over all that it
         * heard since it was sent, it is what it was when it was sent, taken over those.
         */
        void takeSent(int c, Loom loom) {
            Client client = clientAt(c);
            if (client == null || count >= REVISIONS_MOST) return;
            Edit next = revisions.slot(count);
            next.like(client.sent);
            for (int r = client.revision; r < count; r++) {
                loom.carry(next, revisions.slot(r), 0, loom.woven);
                next.take(loom.woven);
            }
            loom.chain(server, next, loom.woven);
            server.take(loom.woven);
            revisions.sign(count, c);
            count++;
            client.isServed = true;
        }

        boolean isSettled() {
            for (int c = 0; c < CLIENTS; c++) {
                Client client = clientAt(c);
                if (client != null && (client.isUnserved() || client.revision < count)) return false;
            }
            return true;
        }

        int clientsAlike() {
            int found = 0;
            for (int c = 0; c < CLIENTS; c++) {
                Edit his = textAt(c);
                if (his == null) continue;
                if (letters.firstUnlike(his.rootAt(0), server.rootAt(0)) == NONE) found++;
            }
            return found;
        }

        int clientsSending() {
            int found = 0;
            for (int c = 0; c < CLIENTS; c++) {
                Client client = clientAt(c);
                if (client != null && client.hasSent) found++;
            }
            return found;
        }

        long allLetters() {
            long found = server.to;
            for (int c = 0; c < CLIENTS; c++) {
                Edit his = textAt(c);
                if (his != null) found += his.to;
            }
            return found;
        }

        /** A draw below n. */
        long draw(long n) {
            seed = seed * 1103515245 + 12345;
            return n > 0 ? (seed >>> 16) % n : 0;
        }

        void like(Meeting other) {
            server.like(other.server);
            count = other.count;
            seed = other.seed;
            for (int c = 0; c < CLIENTS; c++) {
                Client client = clientAt(c);
                Client his = other.clientAt(c);
                if (client != null && his != null) client.like(his);
            }
        }
    }

    /** Bytes that are read for an edit. */
    private static final class Tape {
        private final Row bytes;
        private int place;
        private int fault;

        Tape(Letters store) {
            bytes = new Row(store);
        }

        /** Reads all of it: the fault, or NONE. Behind its end it reads 0, which fits nowhere. */
        int reads(Edit out) {
            out.begin();
            place = 0;
            fault = bytes.size == 0 ? 0 : NONE;
            for (int k = 0; k < bytes.size && fault == NONE && place < bytes.size; k++) readPart(out);
            return fault;
        }

        private void readPart(Edit out) {
            int sign = signAt(place);
            if (sign == '+') {
                readLetters(out);
            } else if (sign == '=' || sign == '-') {
                place++;
                int n = readNumber(99);
                if (fault == NONE) out.goOver(sign == '=' ? KEEP : DELETE, 0, 0, n);
            } else if (sign == '^' || sign == '_') {
                place++;
                int n = readNumber(99);
                readDot();
                int bits = readNumber(ALL_BITS);
                if (fault == NONE) out.goOver(MARK, sign == '^' ? bits : 0, sign == '^' ? 0 : bits, n);
            } else {
                fault = place;
            }
        }

        private void readLetters(Edit out) {
            place++;
            int start = place;
            for (int k = 0; k < TAPE_MOST && isLetter(signAt(place)); k++) {
                out.putIn(signAt(place) - 'a');
                place++;
            }
            if (place == start) fault = place;
        }

        private void readDot() {
            if (fault != NONE) return;
            if (signAt(place) == '.') place++;
            else fault = place;
        }

        /** A number of one or two digits, 1 to most; 0 at a fault. */
        private int readNumber(int most) {
            if (fault != NONE) return 0;
            int start = place;
            int value = 0;
            for (int k = 0; k < 2 && isDigit(signAt(place)); k++) {
                value = 10 * value + signAt(place) - '0';
                place++;
            }
            if (place == start) fault = place;
            else if (value < 1 || value > most) fault = start;
            else if (isDigit(signAt(place))) fault = place;
            return fault == NONE ? value : 0;
        }

        private int signAt(int i) {
            return (int) bytes.at(i);
        }

        private static boolean isLetter(int sign) {
            return sign >= 'a' && sign <= 'z';
        }

        private static boolean isDigit(int sign) {
            return sign >= '0' && sign <= '9';
        }
    }

    /** Holds nothing, a row of elements, or a part as it was when it was shown. */
    private static final class Shelf {
        private static final int PART_FROM = 10;

        private int held = NONE;
        private long size;
        private long[] elements;
        private int on;
        private int off;
        private int firstLetter;

        void holdNothing() {
            held = NONE;
            size = 0;
        }

        void holdRow(int sort, int n) {
            held = sort;
            size = n;
            if (elements == null) elements = new long[ROW_MOST];
            else Arrays.fill(elements, 0L);
        }

        /** Of a part the size is how many letters it goes over or inserts. */
        void holdPart(Edit edit, int i) {
            held = PART_FROM + edit.kindAt(i);
            size = edit.sizeAt(i);
            on = edit.onAt(i);
            off = edit.offAt(i);
            firstLetter = edit.firstLetterAt(i);
        }

        int kind() {
            return held - PART_FROM;
        }

        int answersAs(int kind) {
            switch (kind) {
                case INSERT: return firstLetter;
                case KEEP: return Integer.bitCount(on) + Integer.bitCount(off);
                case DELETE: return told(size + 100);
                case MARK: return 16 * on + off;
                default: return told(size);
            }
        }

        long at(int i) {
            return elements != null && i >= 0 && i < size && i < elements.length ? elements[i] : 0L;
        }

        void put(int i, long v) {
            if (elements != null && i >= 0 && i < size && i < elements.length) elements[i] = lowest(v);
        }

        /** What a sort keeps of a number: its lowest bits; of booleans whether it is 0. */
        private long lowest(long v) {
            switch (held) {
                case 0: return (byte) v;
                case 1: return (short) v;
                case 2: return (int) v;
                case 4: return v != 0 ? 1L : 0L;
                default: return v;
            }
        }

        void takeFrom(Shelf source, int i, int j, int n) {
            if (elements == null || source.elements == null) return;
            if (!isStretch(i, n, source.elements.length) || !isStretch(j, n, elements.length)) return;
            System.arraycopy(source.elements, i, elements, j, n);
        }
    }
}
