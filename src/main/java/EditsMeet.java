import java.util.ArrayList;
import java.util.Arrays;

/**
 * Edits that meet: edits over texts of letters with marks, a server that puts the edits of four
 * clients in an order, and clients that go on while they wait. ../shared/DOC.md says what each
 * call answers; its words in capitals are used here in small letters.
 *
 * All that is needed is made with the object: no call makes anything.
 */
public final class EditsMeet {
    public static final int NONE = -1;

    private static final int BAD = -2;
    private static final int OTHER = -3;
    private static final int NOTHING = -4;
    private static final int STUCK = -5;
    private static final int FULL = -6;

    private static final int PART = 0;
    private static final int INSERT = 1;
    private static final int OVER = 2;
    private static final int KEEP = 3;
    private static final int DELETE = 4;
    private static final int MARK = 5;

    private static final int CLIENTS = 4;
    private static final int SERVER = 4;
    private static final int NUMBERS = 12;
    private static final int SHELVES = 8;
    private static final int SORTS = 5;
    private static final int LETTERS = 26;
    private static final int BITS = 4;
    private static final int ALL_BITS = 15;
    private static final int ROW_MOST = 40;
    private static final int TOLD_MOST = 20;
    private static final int TAPE_MOST = 250;
    private static final int REVISIONS_MOST = 90;
    private static final int KEPT_MOST = 20;
    private static final int TEXT_MOST = 60;
    private static final int DAYS_MOST = 60;
    private static final int LENGTH_MOST = 9999;
    private static final int INSERTED_MOST = 400;
    private static final int ANSWER_MOST = 2147483647;

    /**
     * An act is what is done with one letter: to insert it (the letter in the lowest bits, its marks
     * above them), to delete it, or to mark it (on above off). To turn no bit is to keep.
     */
    private static final int MARKS_AT = 5;
    private static final int LETTER_MASK = 31;
    private static final int DELETE_ACT = 512;
    private static final int KEEP_ACT = 768;
    private static final int ON_AT = 4;

    private final Trees trees = new Trees();
    private final Teller teller = new Teller(trees);
    private final Loom loom = new Loom(trees);
    private final Tape tape = new Tape(loom);
    private final Slots edits = trees.newSlots(NUMBERS);
    private final boolean[] areEdits = new boolean[NUMBERS];
    private final Shelf[] shelves = new Shelf[SHELVES];
    private final int[] refusals = new int[5];
    private final Meeting meeting;
    private final Meeting imaged;
    private boolean hasImage;

    public EditsMeet() {
        for (int s = 0; s < shelves.length; s++) shelves[s] = new Shelf();
        Revisions revisions = new Revisions(trees);
        meeting = new Meeting(trees, revisions);
        imaged = new Meeting(trees, revisions);
    }

    // ---------------------------------------------------------------- shelves

    public int row(int s, int sort, int n) {
        Shelf shelf = shelfAt(s);
        if (shelf == null || sort < 0 || sort >= SORTS || n < 0 || n > ROW_MOST) return refuse(BAD);
        shelf.holdRow(sort, n);
        return 1;
    }

    public int set(int s, int i, long v) {
        Shelf shelf = shelfAt(s);
        if (shelf == null) return refuse(BAD);
        if (shelf.holdsPart()) return refuse(OTHER);
        if (shelf.holdsNothing()) return refuse(NOTHING);
        if (i < 0 || i >= shelf.size) return refuse(BAD);
        shelf.put(i, v);
        return 1;
    }

    public int copy(int p, int q, int i, int j, int n) {
        Shelf source = shelfAt(p);
        Shelf target = shelfAt(q);
        if (source == null || target == null) return refuse(BAD);
        if (source.holdsPart() || target.holdsPart()) return refuse(OTHER);
        boolean oneIsEmpty = source.holdsNothing() || target.holdsNothing();
        if (!oneIsEmpty && source.held != target.held) return refuse(OTHER);
        if (oneIsEmpty) return refuse(NOTHING);
        if (!isStretch(i, n, source.size) || !isStretch(j, n, target.size)) return refuse(BAD);
        target.takeFrom(source, i, j, n);
        return n;
    }

    public long element(int s, int i) {
        Shelf shelf = shelfAt(s);
        return shelf == null ? 0L : shelf.at(i);
    }

    public int holds(int s) {
        Shelf shelf = shelfAt(s);
        return shelf == null ? NONE : shelf.held;
    }

    public int show(int s, int edit, int i) {
        Shelf shelf = shelfAt(s);
        if (shelf == null || edit != NONE && !isNumber(edit)) return refuse(BAD);
        if (edit == NONE) {
            shelf.holdNothing();
            return 1;
        }
        if (!isEdit(edit)) return refuse(NOTHING);
        if (i < 0 || i >= trees.parts(edits.at(edit))) return refuse(BAD);
        shelf.holdPart(teller, edits.at(edit), i);
        return 1;
    }

    public int says(int s, int kind) {
        Shelf shelf = shelfAt(s);
        if (shelf == null || kind < PART || kind > MARK) return refuse(BAD);
        if (shelf.holdsRow()) return refuse(OTHER);
        if (shelf.holdsNothing()) return refuse(NOTHING);
        if (!isUnder(shelf.kind(), kind)) return refuse(OTHER);
        return shelf.answersAs(kind);
    }

    private Shelf shelfAt(int s) {
        return s >= 0 && s < shelves.length ? shelves[s] : null;
    }

    private static boolean isStretch(int start, int n, long size) {
        return n >= 0 && n <= size && start >= 0 && start <= size - n;
    }

    /** Texts may grow longer than an int tells; then it tells the most that it can. */
    private static int told(long n) {
        return n < ANSWER_MOST ? (int) n : ANSWER_MOST;
    }

    private static boolean isUnder(int kind, int asked) {
        if (asked == PART || asked == kind) return true;
        if (asked == OVER) return kind == KEEP || kind == DELETE || kind == MARK;
        return asked == KEEP && kind == MARK;
    }

    // ---------------------------------------------------------------- the tape

    public int feed(int letter) {
        if (letter < 0 || letter > 255) return refuse(BAD);
        if (tape.size >= TAPE_MOST) return refuse(FULL);
        tape.add(letter);
        return tape.size;
    }

    public int wipe() {
        int ahead = tape.size;
        tape.size = 0;
        return ahead;
    }

    public int edit(int edit) {
        int fault = isNumber(edit) ? tape.reads() : NONE;
        tape.size = 0;
        if (!isNumber(edit)) return refuse(BAD);
        if (fault != NONE) {
            refuse(BAD);
            return -300 - fault;
        }
        return keep(edit, loom.hand.at(Loom.DRAFT));
    }

    // ---------------------------------------------------------------- edits by number

    public int of(int edit, int what) {
        if (!isNumber(edit) || what < 0 || what > 5) return refuse(BAD);
        if (!isEdit(edit)) return refuse(NOTHING);
        int asked = edits.at(edit);
        switch (what) {
            case 0: return told(trees.parts(asked));
            case 1: return told(trees.from(asked));
            case 2: return told(trees.to(asked));
            case 3: return told(teller.sumOf(Teller.INSERTED, asked));
            case 4: return told(trees.from(asked) - trees.to(asked) + teller.sumOf(Teller.INSERTED, asked));
            default: return told(teller.sumOf(Teller.TURNED, asked));
        }
    }

    public int part(int edit, int i, int what) {
        if (!isNumber(edit) || what < 0 || what > 3) return refuse(BAD);
        if (!isEdit(edit)) return refuse(NOTHING);
        int asked = edits.at(edit);
        if (i < 0 || i >= trees.parts(asked)) return refuse(BAD);
        switch (what) {
            case 0: return teller.kindAt(asked, i);
            case 1: return told(teller.sizeAt(asked, i));
            case 2: return teller.onAt(asked, i);
            default: return teller.offAt(asked, i);
        }
    }

    public int letter(int edit, int i, int k) {
        if (!isNumber(edit)) return refuse(BAD);
        if (!isEdit(edit)) return refuse(NOTHING);
        int asked = edits.at(edit);
        if (i < 0 || i >= trees.parts(asked)) return refuse(BAD);
        if (teller.kindAt(asked, i) != INSERT) return refuse(OTHER);
        if (k < 0 || k >= teller.sizeAt(asked, i)) return refuse(BAD);
        int found = trees.actAt(asked, teller.placeOf(asked, i) + k);
        return (found & LETTER_MASK) + 100 * (found >> MARKS_AT);
    }

    public int spelled(int edit, int i) {
        if (!isNumber(edit)) return refuse(BAD);
        if (!isEdit(edit)) return refuse(NOTHING);
        return teller.signAt(edits.at(edit), i);
    }

    public int behind(int edit, int a, int b) {
        if (!isNumber(edit) || !isNumber(a) || !isNumber(b)) return refuse(BAD);
        if (!isEdit(a) || !isEdit(b)) return refuse(NOTHING);
        if (trees.from(edits.at(b)) != trees.to(edits.at(a))) return refuse(STUCK);
        return keepIfNotTooBig(edit, loom.weave(Loom.BEHIND, edits.at(a), edits.at(b)));
    }

    public int over(int edit, int a, int b, int first) {
        if (!isNumber(edit) || !isNumber(a) || !isNumber(b)) return refuse(BAD);
        if (first < 0 || first > 1) return refuse(BAD);
        if (!isEdit(a) || !isEdit(b)) return refuse(NOTHING);
        if (trees.from(edits.at(a)) != trees.from(edits.at(b))) return refuse(STUCK);
        int way = first == 1 ? Loom.OVER_FIRST : Loom.OVER_SECOND;
        return keepIfNotTooBig(edit, loom.weave(way, edits.at(a), edits.at(b)));
    }

    public int turned(int edit, int a, int client) {
        Client owner = meeting.clientAt(client);
        if (!isNumber(edit) || !isNumber(a) || owner == null) return refuse(BAD);
        if (!isEdit(a)) return refuse(NOTHING);
        if (trees.from(edits.at(a)) != owner.size()) return refuse(STUCK);
        return keepIfNotTooBig(edit, loom.weave(Loom.TURN, edits.at(a), owner.ownText()));
    }

    public int differ(int a, int b) {
        if (!isNumber(a) || !isNumber(b)) return refuse(BAD);
        if (!isEdit(a) || !isEdit(b)) return refuse(NOTHING);
        return told(teller.firstUnlikePart(edits.at(a), edits.at(b)));
    }

    private static boolean isNumber(int edit) {
        return edit >= 0 && edit < NUMBERS;
    }

    private boolean isEdit(int edit) {
        return edit >= 0 && edit < areEdits.length && areEdits[edit];
    }

    /** A new edit gets that number: how many parts it has. */
    private int keep(int edit, int made) {
        if (edit < 0 || edit >= areEdits.length) return 0;
        areEdits[edit] = true;
        edits.put(edit, made);
        return told(trees.parts(made));
    }

    private int keepIfNotTooBig(int edit, int made) {
        if (trees.from(made) > LENGTH_MOST || trees.to(made) > LENGTH_MOST) return refuse(FULL);
        return teller.sumOf(Teller.INSERTED, made) > INSERTED_MOST ? refuse(FULL) : keep(edit, made);
    }

    // ---------------------------------------------------------------- what clients do

    public int does(int client, int edit) {
        Client doer = meeting.clientAt(client);
        if (doer == null || !isNumber(edit)) return refuse(BAD);
        if (!isEdit(edit)) return refuse(NOTHING);
        int done = edits.at(edit);
        if (trees.from(done) != doer.size()) return refuse(STUCK);
        if (doer.isTooLongBy(done)) return refuse(FULL);
        loom.hand.put(Loom.DRAFT, done);
        doer.clear(Client.REDO);
        doer.doDraft(Client.UNDO, loom);
        return told(doer.size());
    }

    public int insert(int client, int place, int letter, int marks) {
        Client doer = meeting.clientAt(client);
        if (doer == null || place < 0 || place > doer.size()) return refuse(BAD);
        if (letter < 0 || letter >= LETTERS || marks < 0 || marks > ALL_BITS) return refuse(BAD);
        if (doer.size() >= TEXT_MOST) return refuse(FULL);
        loom.draft(place, letter | (marks << MARKS_AT), 1, doer.size() - place);
        doer.clear(Client.REDO);
        doer.doDraft(Client.UNDO, loom);
        return told(doer.size());
    }

    public int cut(int client, int place, int n) {
        Client doer = meeting.clientAt(client);
        if (doer == null || n < 1 || !isStretch(place, n, doer.size())) return refuse(BAD);
        loom.draft(place, DELETE_ACT, n, doer.size() - place - n);
        doer.clear(Client.REDO);
        doer.doDraft(Client.UNDO, loom);
        return told(doer.size());
    }

    public int mark(int client, int place, int n, int bit, int is) {
        Client doer = meeting.clientAt(client);
        if (doer == null || n < 1 || !isStretch(place, n, doer.size())) return refuse(BAD);
        if (bit < 0 || bit >= BITS || is < 0 || is > 1) return refuse(BAD);
        int bits = is == 1 ? 1 << bit << ON_AT : 1 << bit;
        loom.draft(place, KEEP_ACT | bits, n, doer.size() - place - n);
        doer.clear(Client.REDO);
        doer.doDraft(Client.UNDO, loom);
        // What turns it turns back the letters that had it otherwise, and those alone.
        return told(teller.sumOf(Teller.TURNED, doer.latest(Client.UNDO)));
    }

    public int undo(int client) {
        Client doer = meeting.clientAt(client);
        if (doer == null) return refuse(BAD);
        int why = whyNotAgain(doer, Client.UNDO);
        if (why != 0) return refuse(why);
        doer.draftLatest(Client.UNDO, loom);
        doer.doDraft(Client.REDO, loom);
        return doer.countOf(Client.UNDO);
    }

    public int redo(int client) {
        Client doer = meeting.clientAt(client);
        if (doer == null) return refuse(BAD);
        int why = whyNotAgain(doer, Client.REDO);
        if (why != 0) return refuse(why);
        doer.draftLatest(Client.REDO, loom);
        doer.doDraft(Client.UNDO, loom);
        return doer.countOf(Client.REDO);
    }

    public int point(int client, int place, int other) {
        Client asked = meeting.clientAt(client);
        if (asked == null) return refuse(BAD);
        long most = asked.size();
        if (place < 0 || place > most || other < 0 || other > most) return refuse(BAD);
        asked.place = place;
        asked.otherPlace = other;
        return 1;
    }

    /** STUCK or FULL, if the latest of these can't be done; else 0. */
    private static int whyNotAgain(Client doer, int history) {
        if (doer.countOf(history) < 1) return STUCK;
        return doer.isTooLongBy(doer.latest(history)) ? FULL : 0;
    }

    // ---------------------------------------------------------------- server and clients

    public int serve(int client) {
        Client sender = meeting.clientAt(client);
        if (sender == null) return refuse(BAD);
        if (!sender.isUnserved()) return refuse(STUCK);
        if (meeting.count >= REVISIONS_MOST) return refuse(FULL);
        meeting.takeSent(client, loom);
        return meeting.count;
    }

    public int hear(int client) {
        Client hearer = meeting.clientAt(client);
        if (hearer == null) return refuse(BAD);
        if (hearer.revision >= meeting.count) return refuse(STUCK);
        hearer.hearNext(meeting.revisions, loom);
        return hearer.revision;
    }

    public int meet() {
        // What waits is sent by the first round and served by the next, so a few rounds do.
        for (int round = 0; round <= REVISIONS_MOST && !meeting.isSettled(); round++) {
            for (int c = 0; c < CLIENTS; c++) {
                Client sender = meeting.clientAt(c);
                if (sender == null || !sender.isUnserved()) continue;
                if (meeting.count >= REVISIONS_MOST) return refuse(FULL);
                meeting.takeSent(c, loom);
            }
            for (int c = 0; c < CLIENTS; c++) {
                Client hearer = meeting.clientAt(c);
                int behind = hearer == null ? 0 : meeting.count - hearer.revision;
                for (int k = 0; k < behind; k++) hearer.hearNext(meeting.revisions, loom);
            }
        }
        return meeting.count;
    }

    public int cursor(int client, int what) {
        Client asked = meeting.clientAt(client);
        if (asked == null || what < 0 || what > 1) return refuse(BAD);
        return told(what == 0 ? asked.place : asked.otherPlace);
    }

    public int clientOf(int client, int what) {
        Client asked = meeting.clientAt(client);
        if (asked == null || what < 0 || what > 6) return refuse(BAD);
        switch (what) {
            case 0: return asked.revision;
            case 1: return told(trees.parts(asked.told(0)));
            case 2: return asked.hasSent && asked.isServed ? 1 : 0;
            case 3: return told(trees.parts(asked.told(1)));
            case 4: return asked.countOf(Client.UNDO);
            case 5: return asked.countOf(Client.REDO);
            default: return meeting.count - asked.revision;
        }
    }

    public int takes(int edit, int client, int what) {
        Client asked = meeting.clientAt(client);
        if (!isNumber(edit) || asked == null || what < 0 || what > 3) return refuse(BAD);
        return asked.has(what) ? keep(edit, asked.told(what)) : refuse(STUCK);
    }

    public int revision(int edit, int n) {
        if (!isNumber(edit) || n < 1 || n > meeting.count) return refuse(BAD);
        keep(edit, meeting.revisions.edits.at(n - 1));
        return meeting.revisions.clientAt(n - 1);
    }

    // ---------------------------------------------------------------- texts

    public int length(int client) {
        if (!meeting.hasText(client)) return refuse(BAD);
        return told(trees.to(meeting.textAt(client)));
    }

    public int text(int client, int place, int what) {
        int asked = meeting.textAt(client);
        if (!meeting.hasText(client) || place < 0 || place >= trees.to(asked)) return refuse(BAD);
        if (what < 0 || what > 1) return refuse(BAD);
        int found = trees.actAt(asked, place);
        return what == 0 ? found & LETTER_MASK : found >> MARKS_AT;
    }

    public int apart(int client, int other) {
        if (!meeting.hasText(client) || !meeting.hasText(other)) return refuse(BAD);
        return told(teller.firstUnlikePlace(meeting.textAt(client), meeting.textAt(other)));
    }

    public int marked(int client, int bit) {
        if (!meeting.hasText(client) || bit < 0 || bit > BITS) return refuse(BAD);
        return teller.lettersMarked(meeting.textAt(client), bit);
    }

    public int judge(int client, int s, int n) {
        Shelf shelf = shelfAt(s);
        if (!meeting.hasText(client) || shelf == null || n < 0 || n > TOLD_MOST) return refuse(BAD);
        if (shelf.holdsPart()) return refuse(OTHER);
        if (shelf.holdsNothing()) return refuse(NOTHING);
        if (shelf.size < 2 * n) return refuse(BAD);
        int asked = meeting.textAt(client);
        int both = told(Math.min(n, trees.to(asked)));
        for (int i = 0; i < both; i++) {
            int found = trees.actAt(asked, i);
            if (shelf.at(2 * i) != (found & LETTER_MASK)) return i;
            if (shelf.at(2 * i + 1) != found >> MARKS_AT) return i;
        }
        return trees.to(asked) == n ? NONE : both;
    }

    // ---------------------------------------------------------------- days by draws

    public int days(int n) {
        if (n < 1 || n > DAYS_MOST) return refuse(BAD);
        int busy = 0;
        for (int day = 0; day < n; day++) {
            int client = (int) meeting.draw(CLIENTS);
            int deed = (int) meeting.draw(8);
            Client doer = meeting.clientAt(client);
            if (doer == null || !canBe(doer, deed)) continue;
            busy++;
            if (deed <= 4) {
                draftByDraws(doer, deed);
                doer.clear(Client.REDO);
                doer.doDraft(Client.UNDO, loom);
            } else if (deed == 5) {
                doer.draftLatest(Client.UNDO, loom);
                doer.doDraft(Client.REDO, loom);
            } else if (deed == 6) {
                meeting.takeSent(client, loom);
            } else {
                doer.hearNext(meeting.revisions, loom);
            }
        }
        return busy;
    }

    public int seed(int v) {
        int ahead = meeting.seed;
        meeting.seed = v;
        return ahead;
    }

    /** Whether a deed of a day can be; what can't be draws nothing more. */
    private boolean canBe(Client doer, int deed) {
        if (deed <= 2) return doer.size() < TEXT_MOST;
        if (deed <= 4) return doer.size() > 0;
        if (deed == 5) return whyNotAgain(doer, Client.UNDO) == 0;
        if (deed == 6) return doer.isUnserved() && meeting.count < REVISIONS_MOST;
        return doer.revision < meeting.count;
    }

    /** A letter is inserted (0 to 2), deleted (3) or marked (4). */
    private void draftByDraws(Client doer, int deed) {
        long n = doer.size();
        if (deed <= 2) {
            int letter = (int) meeting.draw(LETTERS);
            long place = meeting.draw(n + 1);
            loom.draft(place, letter, 1, n - place);
            return;
        }
        long place = meeting.draw(n);
        int act = deed == 3 ? DELETE_ACT : KEEP_ACT | (1 << meeting.draw(BITS) << ON_AT);
        loom.draft(place, act, 1, n - place - 1);
    }

    // ---------------------------------------------------------------- kept and told

    public int image() {
        imaged.like(meeting);
        hasImage = true;
        return 1;
    }

    public int back() {
        if (!hasImage) return refuse(STUCK);
        meeting.like(imaged);
        return 1;
    }

    public int status(int what) {
        switch (what) {
            case 0: return meeting.count;
            case 1: return meeting.clientsAlike();
            case 2: return editsByNumber();
            case 3: return told(meeting.allLetters());
            case 4: return meeting.clientsSending();
            case 5: return tape.size;
            case 6: return meeting.seed;
            case 7: return shelvesInUse();
            default:
                int refusal = what - 12;
                return refusal >= 0 && refusal < refusals.length ? refusals[refusal] : NONE;
        }
    }

    private int editsByNumber() {
        int found = 0;
        for (int i = 0; i < areEdits.length; i++) {
            if (areEdits[i]) found++;
        }
        return found;
    }

    private int shelvesInUse() {
        int found = 0;
        for (int s = 0; s < shelves.length; s++) {
            if (shelves[s] != null && !shelves[s].holdsNothing()) found++;
        }
        return found;
    }

    private int refuse(int why) {
        int i = BAD - why;
        if (i >= 0 && i < refusals.length) refusals[i]++;
        return why;
    }

    // ---------------------------------------------------------------- classes inside

    /** Edits and texts that somebody holds: what is in no slots is thrown away when room is scarce. */
    private static final class Slots {
        private final int[] nodes;

        Slots(int n) {
            nodes = new int[Math.max(n, 0)];
        }

        int at(int i) {
            return i >= 0 && i < nodes.length ? nodes[i] : Trees.EMPTY;
        }

        void put(int i, int node) {
            if (i >= 0 && i < nodes.length) nodes[i] = node;
        }

        /** Lets go of all from a slot on. */
        void dropFrom(int start) {
            for (int i = Math.max(start, 0); i < nodes.length; i++) nodes[i] = Trees.EMPTY;
        }

        void like(Slots other) {
            System.arraycopy(other.nodes, 0, nodes, 0, Math.min(other.nodes.length, nodes.length));
        }
    }

    /**
     * Edits are balanced trees that never change and share what is alike in them, since clients that
     * each replace the whole text make it four times as long in a few calls, and again: millions of
     * letters or parts then take hardly more room than some. A leaf is an act done with n letters in a
     * row, and no two leaves that stand next to one another have the same act, so edits that do the
     * same have the same leaves. A text is an edit of nothing. A node that would hold the same as
     * another one is that one, however its branches lie; what a node holds is told by its hash.
     */
    private static final class Trees {
        private static final int EMPTY = 0;
        private static final int FROM = 0;
        private static final int TO = 1;
        private static final int LETTERS_AHEAD = 2;
        private static final int LAST_LEAF = 3;
        private static final int AT_BRANCH = 4;
        private static final int NODES_MOST = 3 << 16;
        private static final int KNOWN_MOST = NODES_MOST / 4 * 5;
        /** More than one step of a loom can need. */
        private static final int ROOM_AHEAD = 1 << 11;
        /** How many weaves later it is tried again to throw away more. */
        private static final int TRIED_EACH = 64;
        private static final int DEPTH_MOST = 256;
        /** No branch is more than so many times as heavy as the one beside it. */
        private static final int HEAVIER_MOST = 3;

        /** The shape of a node: the acts of its last and its first leaf, its right and its left node. */
        private static final int FIRST_AT = 10;
        private static final int RIGHT_AT = 20;
        private static final int LEFT_AT = 38;
        private static final int ACT_MASK = (1 << FIRST_AT) - 1;
        private static final int NODE_MASK = (1 << (LEFT_AT - RIGHT_AT)) - 1;
        private static final long ENDS_MASK = (1L << RIGHT_AT) - 1;

        /** A hash is two numbers, each below its own prime, one above the other. */
        private static final int HASH_AT = 32;
        private static final long HASH_MASK = (1L << HASH_AT) - 1;
        private static final long PRIME = 2147483647L;
        private static final long OTHER_PRIME = 2147483629L;
        private static final long BASE = (1640531527L << HASH_AT) | 1103515245L;
        private static final long SPREAD = (1181783497L << HASH_AT) | 1442695041L;
        private static final long ONES = (1L << HASH_AT) | 1L;
        private static final int LONG_BITS = 64;

        private final ArrayList<Slots> holders = new ArrayList<>();
        private final int[] path = new int[DEPTH_MOST];
        private final int[] trail = new int[DEPTH_MOST];
        private final long[] shapes = new long[NODES_MOST];
        private final long[] from = new long[NODES_MOST];
        private final long[] to = new long[NODES_MOST];
        private final long[] parts = new long[NODES_MOST];
        /** How many leaves; 0: the node is free. */
        private final long[] leaves = new long[NODES_MOST];
        private final long[] hashes = new long[NODES_MOST];
        /** What is found out of each node while some of them are looked at; NONE: nothing yet. */
        private final long[] notes = new long[NODES_MOST];
        /** Nodes at slots told by their hash. A fifth of it at least is empty. */
        private final int[] known = new int[KNOWN_MOST];
        /** The base of the hashes times itself: once, twice, four times .. */
        private final long[] powers = new long[LONG_BITS];
        private int free = NODES_MOST - 1;
        private int low = ROOM_AHEAD;
        private int next = 1;
        private int used = 1;
        private int begun;
        /** What split() found behind. */
        private int rest;

        Trees() {
            powers[0] = BASE;
            for (int i = 1; i < powers.length; i++) powers[i] = timesAndPlus(powers[i - 1], powers[i - 1], 0);
        }

        Slots newSlots(int n) {
            Slots made = new Slots(n);
            holders.add(made);
            return made;
        }

        // ------------------------------------------------------------ what a node says

        private static boolean isNode(int node) {
            return node > EMPTY && node < NODES_MOST;
        }

        boolean isBranch(int node) {
            return isNode(node) && ((shapes[node] >> RIGHT_AT) & NODE_MASK) != EMPTY;
        }

        int left(int node) {
            return isNode(node) ? (int) (shapes[node] >> LEFT_AT) & NODE_MASK : EMPTY;
        }

        int right(int node) {
            return isNode(node) ? (int) (shapes[node] >> RIGHT_AT) & NODE_MASK : EMPTY;
        }

        /** How long a text must be for it. */
        long from(int node) {
            return isNode(node) ? from[node] : 0L;
        }

        /** How long the text is then. */
        long to(int node) {
            return isNode(node) ? to[node] : 0L;
        }

        long parts(int node) {
            return isNode(node) ? parts[node] : 0L;
        }

        long leaves(int node) {
            return isNode(node) ? leaves[node] : 0L;
        }

        long hash(int node) {
            return isNode(node) ? hashes[node] : 0L;
        }

        int firstAct(int node) {
            return isNode(node) ? (int) (shapes[node] >> FIRST_AT) & ACT_MASK : NONE;
        }

        int lastAct(int node) {
            return isNode(node) ? (int) shapes[node] & ACT_MASK : NONE;
        }

        /** The act of a leaf; NONE of others. */
        int act(int node) {
            return isBranch(node) ? NONE : lastAct(node);
        }

        /** With how many letters a leaf does its act. */
        long count(int leaf) {
            return Math.max(from(leaf), to(leaf));
        }

        boolean beginsWithLetter(int node) {
            return isNode(node) && ((shapes[node] >> FIRST_AT) & ACT_MASK) < DELETE_ACT;
        }

        boolean endsWithLetter(int node) {
            return isNode(node) && (shapes[node] & ACT_MASK) < DELETE_ACT;
        }

        /** Whether one insert goes on from the left of a branch to the right. */
        boolean isSeam(int branch) {
            return endsWithLetter(left(branch)) && beginsWithLetter(right(branch));
        }

        long size(int axis, int node) {
            return axis == FROM ? from(node) : to(node);
        }

        /** The act at a place of the new text: a letter with its marks, if it is inserted. */
        int actAt(int root, long place) {
            int node = root;
            long inside = place;
            for (int depth = 0; depth < DEPTH_MOST && isBranch(node); depth++) {
                long ahead = to(left(node));
                boolean isLeft = inside < ahead;
                if (!isLeft) inside -= ahead;
                node = isLeft ? left(node) : right(node);
            }
            return Math.max(act(node), 0);
        }

        /**
         * Where a place goes: to where what the edit makes of all that is ahead of it ends, with the
         * letters that are inserted at the place itself, if it is the client's own edit.
         */
        long placeAfter(int root, long place, boolean isOwn) {
            int node = root;
            long inside = place;
            long moved = 0;
            for (int depth = 0; depth < DEPTH_MOST && isBranch(node); depth++) {
                int first = left(node);
                if (inside < from(first) || inside == from(first) && !isOwn) {
                    if (inside == from(first) && !endsWithLetter(first)) return moved + to(first);
                    node = first;
                } else {
                    inside -= from(first);
                    moved += to(first);
                    node = right(node);
                }
            }
            if (act(node) == DELETE_ACT) return moved;
            if (from(node) == 0) return isOwn ? moved + to(node) : moved;
            return moved + Math.min(inside, from(node));
        }

        // ------------------------------------------------------------ how nodes are made

        static long timesAndPlus(long a, long b, long c) {
            long high = ((a >>> HASH_AT) * (b >>> HASH_AT) + (c >>> HASH_AT)) % PRIME;
            long low = ((a & HASH_MASK) * (b & HASH_MASK) + (c & HASH_MASK)) % OTHER_PRIME;
            return (high << HASH_AT) | low;
        }

        /** A hash when n leaves come behind. */
        long movedOn(long hash, long n) {
            long high = hash >>> HASH_AT;
            long low = hash & HASH_MASK;
            long left = n;
            for (int i = 0; i < powers.length && left > 0; i++) {
                if ((left & 1) == 1) {
                    high = high * (powers[i] >>> HASH_AT) % PRIME;
                    low = low * (powers[i] & HASH_MASK) % OTHER_PRIME;
                }
                left >>= 1;
            }
            return (high << HASH_AT) | low;
        }

        int leaf(int act, long n) {
            int made = spare();
            if (n < 1 || act < 0 || act > ACT_MASK || !isNode(made)) return EMPTY;
            shapes[made] = ((long) act << FIRST_AT) | act;
            from[made] = act < DELETE_ACT ? 0 : n;
            to[made] = act == DELETE_ACT ? 0 : n;
            parts[made] = 1;
            long size = ((n % PRIME) << HASH_AT) | (n % OTHER_PRIME);
            hashes[made] = timesAndPlus(size, SPREAD, (act + 1) * ONES);
            return settled(made, 1);
        }

        /** Both, one behind the other; they must not be melded, nor one of them be too heavy. */
        private int branch(int one, int two) {
            if (!isNode(two)) return one;
            if (!isNode(one)) return two;
            int made = spare();
            if (!isNode(made)) return one;
            boolean isSeam = (shapes[one] & ACT_MASK) < DELETE_ACT;
            isSeam = isSeam && ((shapes[two] >> FIRST_AT) & ACT_MASK) < DELETE_ACT;
            long ends = (shapes[one] & (ENDS_MASK ^ ACT_MASK)) | (shapes[two] & ACT_MASK);
            shapes[made] = ((long) one << LEFT_AT) | ((long) two << RIGHT_AT) | ends;
            from[made] = from[one] + from[two];
            to[made] = to[one] + to[two];
            parts[made] = parts[one] + parts[two] - (isSeam ? 1 : 0);
            hashes[made] = timesAndPlus(movedOn(hashes[one], leaves[two]), ONES, hashes[two]);
            return settled(made, leaves[one] + leaves[two]);
        }

        /** A node that is free; EMPTY, if there is none. */
        private int spare() {
            for (; next < NODES_MOST; next++) {
                if (leaves[next] == 0) return next;
            }
            return EMPTY;
        }

        /** The node that holds the same, if there is one; else the one just made, no more free. */
        private int settled(int made, long itsLeaves) {
            if (made <= EMPTY || made >= NODES_MOST) return EMPTY;
            int slot = (int) (((hashes[made] ^ (hashes[made] >>> HASH_AT)) & HASH_MASK) % KNOWN_MOST);
            for (int probe = 0; probe < known.length && known[slot] > EMPTY; probe++) {
                int found = known[slot];
                boolean isAlike = found < NODES_MOST && hashes[found] == hashes[made];
                isAlike = isAlike && leaves[found] == itsLeaves;
                isAlike = isAlike && from[found] == from[made] && to[found] == to[made];
                isAlike = isAlike && ((shapes[found] ^ shapes[made]) & ENDS_MASK) == 0;
                if (isAlike && parts[found] == parts[made]) return found;
                slot = slot + 1 < known.length ? slot + 1 : 0;
            }
            known[slot] = made;
            leaves[made] = itsLeaves;
            free--;
            if (used <= made) used = made + 1;
            return made;
        }

        // ------------------------------------------------------------ one behind the other

        /** Both, one behind the other, kept plain: letters behind what is deleted go ahead of it. */
        int join(int one, int two) {
            if (!isNode(one)) return two;
            if (!isNode(two)) return one;
            if (canBeMelded(one, two)) return melded(one, two);
            if (lastAct(one) != DELETE_ACT || !beginsWithLetter(two)) return cat(one, two);
            int start = split(LAST_LEAF, one, 0);
            int deleted = rest;
            int letters = split(LETTERS_AHEAD, two, 0);
            int end = rest;
            int ahead = canBeMelded(start, letters) ? melded(start, letters) : cat(start, letters);
            return cat(ahead, canBeMelded(deleted, end) ? melded(deleted, end) : cat(deleted, end));
        }

        /** Whether the last leaf of the one and the first of the other have the same act. */
        private boolean canBeMelded(int one, int two) {
            return isNode(one) && isNode(two) && lastAct(one) == firstAct(two);
        }

        /** The last leaf of the one and the first of the other become one. */
        private int melded(int one, int two) {
            int top = 0;
            int node = two;
            for (; top < DEPTH_MOST && isBranch(node); top++) {
                trail[top] = node;
                node = left(node);
            }
            long more = count(node);
            int end = EMPTY;
            for (int i = top - 1; i >= 0; i--) end = cat(end, right(trail[i]));
            node = one;
            for (top = 0; top < DEPTH_MOST && isBranch(node); top++) {
                trail[top] = node;
                node = right(node);
            }
            int made = leaf(act(node), count(node) + more);
            for (int i = top - 1; i >= 0; i--) made = branch(left(trail[i]), made);
            return cat(made, end);
        }

        /**
         * Both, one behind the other, as they are: the lighter one is put beside a branch at the
         * heavier one's edge, and what is too heavy above it then gives a branch away.
         */
        private int cat(int one, int two) {
            if (!isNode(one)) return two;
            if (!isNode(two)) return one;
            boolean isFirst = leaves[one] > leaves[two];
            long light = isFirst ? leaves[two] : leaves[one];
            int node = isFirst ? one : two;
            int top = 0;
            for (; top < DEPTH_MOST && isBranch(node) && leaves[node] > HEAVIER_MOST * light; top++) {
                path[top] = node;
                node = isFirst ? right(node) : left(node);
            }
            int made = isFirst ? branch(node, two) : branch(one, node);
            for (int i = top - 1; i >= 0; i--) {
                int beside = isFirst ? left(path[i]) : right(path[i]);
                int inner = isFirst ? left(made) : right(made);
                int outer = isFirst ? right(made) : left(made);
                if (leaves(made) <= HEAVIER_MOST * leaves(beside)) {
                    made = isFirst ? branch(beside, made) : branch(made, beside);
                } else if (!isBranch(inner) || !isTooHeavy(leaves(inner), leaves(beside), leaves(outer))) {
                    int both = isFirst ? branch(beside, inner) : branch(inner, beside);
                    made = isFirst ? branch(both, outer) : branch(outer, both);
                } else {
                    int near = isFirst ? branch(beside, left(inner)) : branch(right(inner), beside);
                    int far = isFirst ? branch(right(inner), outer) : branch(outer, left(inner));
                    made = isFirst ? branch(near, far) : branch(far, near);
                }
            }
            return made;
        }

        /** Whether the inner of two branches can't go as a whole from the outer one to the one beside. */
        private static boolean isTooHeavy(long inner, long beside, long outer) {
            return inner > HEAVIER_MOST * beside || beside + inner > HEAVIER_MOST * outer;
        }

        // ------------------------------------------------------------ parted

        /**
         * What is ahead; what is behind stands in rest then. Parted at a place of the old text (FROM;
         * what is inserted there is behind) or of the new one (TO), behind the letters that it begins
         * with (LETTERS_AHEAD), ahead of the last leaf (LAST_LEAF), or where its branches meet (AT_BRANCH).
         */
        int split(int how, int root, long place) {
            if (how == AT_BRANCH) {
                rest = right(root);
                return left(root);
            }
            int node = root;
            long inside = place;
            int top = 0;
            int side = side(how, node, inside);
            for (; top < DEPTH_MOST && isBranch(node) && side == 0; top++) {
                int ahead = left(node);
                boolean isLeft = how == LETTERS_AHEAD ? from(ahead) > 0 : how <= TO && inside <= size(how, ahead);
                trail[top] = isLeft ? node : -node;
                if (!isLeft && how <= TO) inside -= size(how, ahead);
                node = isLeft ? ahead : right(node);
                side = side(how, node, inside);
            }
            int start = side > 0 ? node : side < 0 ? EMPTY : leaf(act(node), inside);
            int end = side > 0 ? EMPTY : side < 0 ? node : leaf(act(node), count(node) - inside);
            for (int i = top - 1; i >= 0; i--) {
                if (trail[i] > 0) end = cat(end, right(trail[i]));
                else start = cat(left(-trail[i]), start);
            }
            rest = end;
            return start;
        }

        /** Whether all of a node is ahead of where it is to be parted (1), behind that (-1) or neither. */
        private int side(int how, int node, long place) {
            if (how > LETTERS_AHEAD) return isBranch(node) ? 0 : -1;
            if (how == LETTERS_AHEAD) return !beginsWithLetter(node) ? -1 : from(node) == 0 ? 1 : 0;
            if (place <= 0) return -1;
            if (how == TO) return place >= to(node) ? 1 : 0;
            return place > from(node) || place == from(node) && !endsWithLetter(node) ? 1 : 0;
        }

        // ------------------------------------------------------------ what is thrown away

        void newLook() {
            Arrays.fill(notes, 0, Math.min(Math.max(used, 0), notes.length), NONE);
        }

        /** Whether something was noted of a node already. */
        boolean isNoted(int node) {
            return !isNode(node) || notes[node] != NONE;
        }

        void putNote(int node, long found) {
            if (isNode(node)) notes[node] = found;
        }

        long note(int node) {
            return isNode(node) ? notes[node] : 0L;
        }

        boolean isFree(int node) {
            return isNode(node) && leaves[node] == 0;
        }

        boolean isScarce() {
            return free < low;
        }

        boolean isFull() {
            return free <= 0;
        }

        /** Something new begins: now and then it is tried again whether there is more to throw away. */
        void watchRoom() {
            begun++;
            if (begun % TRIED_EACH == 0) low = ROOM_AHEAD;
        }

        /** Throws away what is in nobody's slots. */
        void tidy() {
            newLook();
            for (int h = 0; h < holders.size(); h++) {
                Slots held = holders.get(h);
                for (int i = 0; held != null && i < held.nodes.length; i++) reach(held.nodes[i]);
            }
            Arrays.fill(known, EMPTY);
            free = NODES_MOST - 1;
            next = 1;
            for (int node = 1; node < used && node < NODES_MOST; node++) {
                if (notes[node] == NONE) leaves[node] = 0;
                else if (leaves[node] > 0) settled(node, leaves[node]);
            }
            low = Math.min(ROOM_AHEAD, free / 2);
        }

        private void reach(int root) {
            int top = 0;
            trail[top++] = root;
            for (int step = 0; step <= 2 * NODES_MOST && top > 0; step++) {
                int node = trail[--top];
                if (isNoted(node)) continue;
                notes[node] = 0;
                if (!isBranch(node) || top + 1 >= DEPTH_MOST) continue;
                trail[top++] = right(node);
                trail[top++] = left(node);
            }
        }
    }

    /** Tells what is in edits and texts. */
    private static final class Teller {
        private static final int TURNED = 0;
        private static final int INSERTED = 1;
        private static final int SIGNS = 2;
        private static final int SIGNS_MOST = 32;

        private final Trees trees;
        private final int[] trail = new int[Trees.DEPTH_MOST];
        private final char[] signs = new char[SIGNS_MOST];
        private int signCount;
        /** The place in the new text at which what was sought begins. */
        private long placed;

        Teller(Trees store) {
            trees = store;
        }

        // ------------------------------------------------------------ parts

        int kindAt(int edit, int i) {
            return kindOf(trees.act(seek(edit, i)));
        }

        private static int kindOf(int act) {
            if (act < DELETE_ACT) return INSERT;
            if (act == DELETE_ACT) return DELETE;
            return act == KEEP_ACT ? KEEP : MARK;
        }

        /** How many letters the i-th part goes over or inserts. */
        long sizeAt(int edit, int i) {
            int leaf = seek(edit, i);
            if (kindOf(trees.act(leaf)) != INSERT) return trees.count(leaf);
            long begun = placed;
            if (i + 1L >= trees.parts(edit)) return trees.to(edit) - begun;
            seek(edit, i + 1L);
            return placed - begun;
        }

        int onAt(int edit, int i) {
            int act = trees.act(seek(edit, i));
            return act > KEEP_ACT ? (act >> ON_AT) & ALL_BITS : 0;
        }

        int offAt(int edit, int i) {
            int act = trees.act(seek(edit, i));
            return act > KEEP_ACT ? act & ALL_BITS : 0;
        }

        int firstLetterAt(int edit, int i) {
            return trees.act(seek(edit, i)) & LETTER_MASK;
        }

        /** The place in the new text at which the i-th part begins. */
        long placeOf(int edit, int i) {
            seek(edit, i);
            return placed;
        }

        /** The first leaf of the i-th part. */
        private int seek(int edit, long i) {
            int node = edit;
            long index = i;
            placed = 0;
            for (int depth = 0; depth < Trees.DEPTH_MOST && trees.isBranch(node); depth++) {
                int ahead = trees.left(node);
                if (index < trees.parts(ahead)) {
                    node = ahead;
                } else {
                    index -= trees.parts(ahead) - (trees.isSeam(node) ? 1 : 0);
                    placed += trees.to(ahead);
                    node = trees.right(node);
                }
            }
            return node;
        }

        // ------------------------------------------------------------ sums

        /**
         * How many letters an edit turns or inserts, or how many signs it has when it is spelled. Of each
         * node in it that is told by those below it, once alone.
         */
        long sumOf(int what, int root) {
            if (root == Trees.EMPTY) return 0L;
            trees.newLook();
            int top = 0;
            trail[top++] = root;
            for (int step = 0; step < 4 * Trees.NODES_MOST && top > 0; step++) {
                int node = trail[top - 1];
                int one = trees.left(node);
                int two = trees.right(node);
                if (!trees.isNoted(one) && top < trail.length) {
                    trail[top++] = one;
                } else if (!trees.isNoted(two) && top < trail.length) {
                    trail[top++] = two;
                } else {
                    int seam = what == SIGNS && trees.isSeam(node) ? 1 : 0;
                    boolean isBranch = trees.isBranch(node);
                    trees.putNote(node, isBranch ? trees.note(one) + trees.note(two) - seam : leafSum(what, node));
                    top--;
                }
            }
            return trees.note(root);
        }

        private long leafSum(int what, int leaf) {
            long n = trees.count(leaf);
            int kind = kindOf(trees.act(leaf));
            if (what == TURNED) return kind == MARK ? n : 0;
            if (what == INSERTED) return kind == INSERT ? n : 0;
            if (kind == INSERT) return n + 1;
            spell(leaf);
            return signCount;
        }

        /** Letters (bits) that stand in a text with a mark; bit 4: with none at all. */
        int lettersMarked(int text, int bit) {
            trees.newLook();
            int found = 0;
            int top = 0;
            trail[top++] = text;
            for (int step = 0; step <= 2 * Trees.NODES_MOST && top > 0; step++) {
                int node = trail[--top];
                if (trees.isNoted(node)) continue;
                trees.putNote(node, 0);
                if (trees.isBranch(node) && top + 1 < trail.length) {
                    trail[top++] = trees.right(node);
                    trail[top++] = trees.left(node);
                    continue;
                }
                int act = trees.act(node);
                int has = act >> MARKS_AT;
                boolean fits = bit == BITS ? has == 0 : ((has >> bit) & 1) == 1;
                if (fits) found |= 1 << (act & LETTER_MASK);
            }
            return found;
        }

        // ------------------------------------------------------------ spelled

        /** The i-th sign of an edit spelled; NONE: none such. */
        int signAt(int edit, int i) {
            if (i < 0 || i >= sumOf(SIGNS, edit)) return NONE;
            int node = edit;
            long index = i;
            for (int depth = 0; depth < Trees.DEPTH_MOST && trees.isBranch(node); depth++) {
                int ahead = trees.left(node);
                if (index < trees.note(ahead)) {
                    node = ahead;
                } else {
                    // What goes on from the left has its sign there already.
                    index -= trees.note(ahead) - (trees.isSeam(node) ? 1 : 0);
                    node = trees.right(node);
                }
            }
            int act = trees.act(node);
            if (kindOf(act) == INSERT) return index == 0 ? '+' : 'a' + (act & LETTER_MASK);
            spell(node);
            return index < signs.length ? signs[(int) Math.max(index, 0)] : NONE;
        }

        /** All that a leaf is spelled, but for an insert. */
        private void spell(int leaf) {
            int act = trees.act(leaf);
            signCount = 0;
            if (act <= KEEP_ACT) {
                spellSign(act == KEEP_ACT ? '=' : '-');
                spellNumber(trees.count(leaf));
                return;
            }
            int on = (act >> ON_AT) & ALL_BITS;
            int off = act & ALL_BITS;
            spellSign(on != 0 ? '^' : '_');
            spellNumber(trees.count(leaf));
            spellSign('.');
            spellNumber(on != 0 ? on : off);
            if (on == 0 || off == 0) return;
            spellSign('_');
            spellNumber(off);
        }

        private void spellSign(char sign) {
            if (signCount >= 0 && signCount < signs.length) signs[signCount++] = sign;
        }

        private void spellNumber(long n) {
            boolean isBegun = false;
            for (long unit = 1000000000000000000L; unit > 0; unit /= 10) {
                int digit = (int) ((n / unit) % 10);
                isBegun = isBegun || digit != 0;
                if (isBegun) spellSign((char) ('0' + digit));
            }
        }

        // ------------------------------------------------------------ where two differ

        /** The first part at which two edits differ; NONE. */
        long firstUnlikePart(int one, int two) {
            if (one == two) return NONE;
            long both = leavesAlike(one, two);
            int last = leafAt(one, both - 1);
            // An insert that is alike so far differs, if only one of them goes on, or both otherwise.
            boolean isInsert = trees.endsWithLetter(last);
            boolean goesOn = trees.beginsWithLetter(leafAt(one, both)) || trees.beginsWithLetter(leafAt(two, both));
            return partsOf(one, both) - (isInsert && goesOn ? 1 : 0);
        }

        /** The first place at which two texts differ, or one ends; NONE. */
        long firstUnlikePlace(int one, int two) {
            if (one == two) return NONE;
            long both = leavesAlike(one, two);
            int his = leafAt(one, both);
            int other = leafAt(two, both);
            boolean areOneLetter = trees.act(his) == trees.act(other);
            return lengthOf(one, both) + (areOneLetter ? Math.min(trees.to(his), trees.to(other)) : 0);
        }

        /** How many leaves are alike from the first one on. */
        private long leavesAlike(int one, int two) {
            if (isWithin(one, two, 0)) return trees.leaves(one);
            long alike = 0;
            int node = one;
            for (int depth = 0; depth < Trees.DEPTH_MOST && trees.isBranch(node); depth++) {
                int ahead = trees.left(node);
                if (isWithin(ahead, two, alike)) {
                    alike += trees.leaves(ahead);
                    node = trees.right(node);
                } else {
                    node = ahead;
                }
            }
            return alike;
        }

        /** Whether the other one has all of a node from its leaf start on. */
        private boolean isWithin(int node, int other, long start) {
            long end = start + trees.leaves(node);
            if (end > trees.leaves(other)) return false;
            return hashOf(other, end) == withBehind(hashOf(other, start), node);
        }

        /** A hash when a node comes behind. */
        private long withBehind(long hash, int node) {
            return Trees.timesAndPlus(trees.movedOn(hash, trees.leaves(node)), Trees.ONES, trees.hash(node));
        }

        /** What the hash of the first leaves is. */
        private long hashOf(int root, long leaves) {
            int node = root;
            long left = leaves;
            long found = 0;
            for (int depth = 0; depth < Trees.DEPTH_MOST && node != Trees.EMPTY && left > 0; depth++) {
                int whole = left >= trees.leaves(node) ? node : trees.left(node);
                boolean isAhead = left >= trees.leaves(whole);
                if (isAhead) {
                    found = withBehind(found, whole);
                    left -= trees.leaves(whole);
                }
                node = isAhead ? trees.right(node) : whole;
            }
            return found;
        }

        /** How many letters the first leaves are. */
        private long lengthOf(int root, long leaves) {
            int node = root;
            long left = leaves;
            long found = 0;
            for (int depth = 0; depth < Trees.DEPTH_MOST && trees.isBranch(node); depth++) {
                int ahead = trees.left(node);
                if (left >= trees.leaves(ahead)) {
                    found += trees.to(ahead);
                    left -= trees.leaves(ahead);
                    node = trees.right(node);
                } else {
                    node = ahead;
                }
            }
            return left > 0 ? found + trees.to(node) : found;
        }

        /** How many parts the first leaves are. */
        private long partsOf(int root, long leaves) {
            int node = root;
            long left = leaves;
            long found = 0;
            for (int depth = 0; depth < Trees.DEPTH_MOST && trees.isBranch(node); depth++) {
                int ahead = trees.left(node);
                if (left > trees.leaves(ahead)) {
                    found += trees.parts(ahead) - (trees.isSeam(node) ? 1 : 0);
                    left -= trees.leaves(ahead);
                    node = trees.right(node);
                } else {
                    node = ahead;
                }
            }
            if (left <= 0) return found;
            return found + trees.parts(node);
        }

        private int leafAt(int root, long i) {
            if (i < 0 || i >= trees.leaves(root)) return Trees.EMPTY;
            int node = root;
            long left = i;
            for (int depth = 0; depth < Trees.DEPTH_MOST && trees.isBranch(node); depth++) {
                int ahead = trees.left(node);
                if (left < trees.leaves(ahead)) {
                    node = ahead;
                } else {
                    left -= trees.leaves(ahead);
                    node = trees.right(node);
                }
            }
            return node;
        }
    }

    /**
     * Weaves two edits into one: both are parted at the same place, again and again, till what comes
     * of two pieces is told at once. What came of two pieces is remembered, so of what is alike in
     * them it is woven once alone.
     */
    private static final class Loom {
        /** The second one behind the first. */
        private static final int BEHIND = 0;
        /** The first one over the second, their letters at one place in this order or the other. */
        private static final int OVER_SECOND = 1;
        private static final int OVER_FIRST = 2;
        /** The first one turned for a text, the second. */
        private static final int TURN = 3;
        private static final int WAYS = 4;

        /** Slots of the hand: what is held while something is done. */
        private static final int DRAFT = 0;
        private static final int COMING = 1;
        private static final int CAME = 2;
        private static final int PASSED = 3;
        private static final int MADE = 4;
        private static final int HAND = 5;

        /** Slots of each frame: what is to be woven, what is left of it, what came of its beginning. */
        private static final int ONE = 0;
        private static final int TWO = 1;
        private static final int REST_ONE = 2;
        private static final int REST_TWO = 3;
        private static final int START = 4;
        private static final int FRAME = 5;
        private static final int FRAMES_MOST = 512;

        private static final int STEPS_MOST = 1 << 24;
        private static final int MEMORY_BITS = 15;
        private static final int MEMORY = 1 << MEMORY_BITS;
        private static final long KEY_SPREAD = 0x9E3779B97F4A7C15L;
        private static final int KEY_SHIFT = 64 - MEMORY_BITS;

        private final Trees trees;
        private final Slots hand;
        private final Slots frames;
        private final long[] keys = new long[MEMORY];
        private final int[] answers = new int[MEMORY];
        private int top;

        Loom(Trees store) {
            trees = store;
            hand = store.newSlots(HAND);
            frames = store.newSlots(FRAME * FRAMES_MOST);
        }

        /** Drafts an edit: so many letters kept, an act done with some, so many kept. */
        void draft(long ahead, int act, long n, long behind) {
            int start = trees.join(trees.leaf(KEEP_ACT, ahead), trees.leaf(act, n));
            hand.put(DRAFT, trees.join(start, trees.leaf(KEEP_ACT, behind)));
        }

        int weave(int way, int one, int two) {
            int made = NONE;
            top = 0;
            trees.watchRoom();
            push(one, two);
            for (int step = 0; step < STEPS_MOST && top > 0; step++) {
                tidy(made);
                if (trees.isFull()) return Trees.EMPTY;
                int frame = (top - 1) * FRAME;
                if (made == NONE) {
                    made = atOnce(way, frames.at(frame + ONE), frames.at(frame + TWO));
                    if (made == NONE) made = remembered(way, frame);
                    if (made == NONE) divide(way, frame);
                    else top--;
                } else if (frames.at(frame + START) == NONE) {
                    frames.put(frame + START, made);
                    made = NONE;
                    push(frames.at(frame + REST_ONE), frames.at(frame + REST_TWO));
                } else {
                    made = trees.join(frames.at(frame + START), made);
                    remember(way, frame, made);
                    top--;
                }
            }
            return made == NONE ? Trees.EMPTY : made;
        }

        private void push(int one, int two) {
            int frame = top * FRAME;
            frames.put(frame + ONE, one);
            frames.put(frame + TWO, two);
            frames.put(frame + START, NONE);
            if (top < FRAMES_MOST) top++;
        }

        /** Parts both where the branches of the heavier one meet; goes on with what is ahead. */
        private void divide(int way, int frame) {
            int one = frames.at(frame + ONE);
            int two = frames.at(frame + TWO);
            int how = way == BEHIND ? Trees.TO : Trees.FROM;
            int otherHow = way == TURN ? Trees.TO : Trees.FROM;
            boolean isHeavier = trees.leaves(one) >= trees.leaves(two);
            long place = isHeavier ? trees.size(how, trees.left(one)) : trees.size(otherHow, trees.left(two));
            boolean hasLetters = how == Trees.FROM && trees.beginsWithLetter(one);
            if (hasLetters || otherHow == Trees.FROM && trees.beginsWithLetter(two)) {
                // At one place the letters of both have their own order, so they go ahead together.
                how = how == Trees.FROM ? Trees.LETTERS_AHEAD : how;
                otherHow = otherHow == Trees.FROM ? Trees.LETTERS_AHEAD : otherHow;
                place = 0;
            } else if (isHeavier && (how == Trees.TO || !trees.endsWithLetter(trees.left(one)))) {
                how = Trees.AT_BRANCH;
            } else if (!isHeavier && (otherHow == Trees.TO || !trees.endsWithLetter(trees.left(two)))) {
                otherHow = Trees.AT_BRANCH;
            }
            int start = trees.split(how, one, place);
            frames.put(frame + REST_ONE, trees.rest);
            int otherStart = trees.split(otherHow, two, place);
            frames.put(frame + REST_TWO, trees.rest);
            push(start, otherStart);
        }

        /** What comes of two that needn't be parted; else NONE. */
        private int atOnce(int way, int one, int two) {
            if (two == Trees.EMPTY) return way == TURN ? trees.leaf(DELETE_ACT, trees.to(one)) : one;
            if (one == Trees.EMPTY) {
                if (way == BEHIND) return two;
                return way == TURN ? Trees.EMPTY : trees.leaf(KEEP_ACT, trees.to(two));
            }
            if (way == BEHIND) return behindAtOnce(one, two);
            return way == TURN ? turnedAtOnce(one, two) : overAtOnce(way, one, two);
        }

        private int behindAtOnce(int one, int two) {
            int act = trees.act(one);
            int other = trees.act(two);
            if (other == KEEP_ACT) return one;
            if (act == KEEP_ACT) return two;
            if (other == DELETE_ACT) return trees.leaf(DELETE_ACT, trees.from(one));
            if (trees.from(two) == 0) return trees.cat(two, one);
            if (act == NONE || other == NONE) return NONE;
            int on = (other >> ON_AT) & ALL_BITS;
            int off = other & ALL_BITS;
            if (act < DELETE_ACT) return trees.leaf((act | (on << MARKS_AT)) & ~(off << MARKS_AT), trees.to(one));
            int bothOn = (((act >> ON_AT) & ~off) | on) & ALL_BITS;
            int bothOff = ((act & ~on) | off) & ALL_BITS;
            return trees.leaf(KEEP_ACT | (bothOn << ON_AT) | bothOff, trees.to(one));
        }

        private int overAtOnce(int way, int one, int two) {
            int act = trees.act(one);
            int other = trees.act(two);
            if (other == KEEP_ACT) return one;
            if (act == KEEP_ACT) return trees.leaf(KEEP_ACT, trees.to(two));
            if (trees.from(one) == 0) {
                int kept = trees.leaf(KEEP_ACT, trees.to(two));
                return way == OVER_FIRST ? trees.cat(one, kept) : trees.cat(kept, one);
            }
            if (act == NONE || other == NONE) return NONE;
            if (other == DELETE_ACT) return Trees.EMPTY;
            if (act == DELETE_ACT || way == OVER_SECOND) return one;
            int spared = ((other >> ON_AT) | other) & ALL_BITS;
            return trees.leaf(act & ~(spared << ON_AT) & ~spared, trees.from(one));
        }

        private int turnedAtOnce(int one, int text) {
            int act = trees.act(one);
            int letter = trees.act(text);
            if (act == KEEP_ACT) return one;
            if (act == DELETE_ACT) return text;
            if (trees.from(one) == 0) return trees.leaf(DELETE_ACT, trees.to(one));
            if (act == NONE || letter == NONE) return NONE;
            int had = letter >> MARKS_AT;
            int on = act & had & ALL_BITS;
            int off = (act >> ON_AT) & ~had & ALL_BITS;
            return trees.leaf(KEEP_ACT | (on << ON_AT) | off, trees.from(one));
        }

        // ------------------------------------------------------------ what is remembered

        private long key(int way, int frame) {
            long both = (long) frames.at(frame + ONE) * Trees.NODES_MOST + frames.at(frame + TWO);
            return both * WAYS + way;
        }

        /** Two keys may stand at one slot's place, the later one ahead. */
        private static int memoryOf(long key) {
            return (int) ((key * KEY_SPREAD) >>> KEY_SHIFT) & (MEMORY - 2);
        }

        private int remembered(int way, int frame) {
            long key = key(way, frame);
            int i = memoryOf(key);
            if (i + 1 >= keys.length) return NONE;
            if (keys[i] == key) return answers[i];
            return keys[i + 1] == key ? answers[i + 1] : NONE;
        }

        private void remember(int way, int frame, int made) {
            long key = key(way, frame);
            int i = memoryOf(key);
            if (i + 1 >= keys.length) return;
            keys[i + 1] = keys[i];
            answers[i + 1] = answers[i];
            keys[i] = key;
            answers[i] = made;
        }

        /** Makes room, if it is scarce; what was made just now is held, too. */
        void tidy(int made) {
            if (!trees.isScarce()) return;
            hand.put(MADE, made);
            frames.dropFrom(top * FRAME);
            trees.tidy();
            for (int i = 0; i < keys.length; i++) {
                long both = keys[i] / WAYS;
                boolean isGone = trees.isFree((int) (both / Trees.NODES_MOST));
                isGone = isGone || trees.isFree((int) (both % Trees.NODES_MOST));
                if (isGone || trees.isFree(answers[i])) keys[i] = 0;
            }
        }
    }

    private static final class Client {
        private static final int UNDO = 0;
        private static final int REDO = 1;

        /** Slots: the text, what is sent, what waits, those to undo, those to redo. */
        private static final int TEXT = 0;
        private static final int SENT = 1;
        private static final int WAITING = 2;
        private static final int KEPT = 3;
        private static final int HELD = KEPT + 2 * KEPT_MOST;

        private final int number;
        private final Trees trees;
        private final Slots held;
        private int undos;
        private int redos;
        private boolean hasSent;
        private boolean isServed;
        private boolean hasWaiting;
        private int revision;
        private long place;
        private long otherPlace;

        Client(int ownNumber, Trees store) {
            number = ownNumber;
            trees = store;
            held = store.newSlots(HELD);
        }

        int ownText() {
            return held.at(TEXT);
        }

        long size() {
            return trees.to(held.at(TEXT));
        }

        boolean isUnserved() {
            return hasSent && !isServed;
        }

        boolean isTooLongBy(int edit) {
            return trees.to(edit) > TEXT_MOST && trees.to(edit) > size();
        }

        /** Whether something is sent (0), waits (1), is to undo (2) or to redo (3). */
        boolean has(int what) {
            switch (what) {
                case 0: return hasSent;
                case 1: return hasWaiting;
                default: return countOf(what - 2) > 0;
            }
        }

        /** What is sent (0), what waits (1), the latest to undo (2), to redo (3). */
        int told(int what) {
            if (!has(what)) return Trees.EMPTY;
            return what < 2 ? held.at(SENT + what) : latest(what - 2);
        }

        // ------------------------------------------------------------ to undo and to redo

        int countOf(int history) {
            return history == UNDO ? undos : redos;
        }

        int latest(int history) {
            return countOf(history) > 0 ? held.at(slotOf(history, countOf(history) - 1)) : Trees.EMPTY;
        }

        private static int slotOf(int history, int i) {
            return KEPT + history * KEPT_MOST + i;
        }

        private void keep(int history, int edit) {
            int n = countOf(history);
            if (n >= KEPT_MOST) {
                for (int i = 1; i < n; i++) held.put(slotOf(history, i - 1), held.at(slotOf(history, i)));
                n = KEPT_MOST - 1;
            }
            held.put(slotOf(history, n), edit);
            putCount(history, n + 1);
        }

        private void drop(int history) {
            int n = countOf(history) - 1;
            if (n < 0) return;
            held.put(slotOf(history, n), Trees.EMPTY);
            putCount(history, n);
        }

        void clear(int history) {
            for (int i = countOf(history); i > 0; i--) drop(history);
        }

        private void putCount(int history, int n) {
            if (history == UNDO) undos = n;
            else redos = n;
        }

        // ------------------------------------------------------------ what is done

        /** The latest to undo or to redo goes from there, to be done. */
        void draftLatest(int history, Loom loom) {
            loom.hand.put(Loom.DRAFT, latest(history));
            drop(history);
        }

        /** What was drafted is done; what turns it goes to those to undo, or to redo. */
        void doDraft(int historyOfTurned, Loom loom) {
            int edit = loom.hand.at(Loom.DRAFT);
            keep(historyOfTurned, loom.weave(Loom.TURN, edit, held.at(TEXT)));
            held.put(TEXT, loom.weave(Loom.BEHIND, held.at(TEXT), edit));
            movePlaces(edit, true);
            if (!hasSent) {
                held.put(SENT, edit);
                hasSent = true;
                isServed = false;
            } else {
                held.put(WAITING, hasWaiting ? loom.weave(Loom.BEHIND, held.at(WAITING), edit) : edit);
                hasWaiting = true;
            }
        }

        // ------------------------------------------------------------ what is heard

        void hearNext(Revisions all, Loom loom) {
            boolean isOwn = all.clientAt(revision) == number;
            Slots hand = loom.hand;
            hand.put(Loom.COMING, all.edits.at(revision));
            revision++;
            if (isOwn) {
                sendWaiting();
                return;
            }
            for (int stage = 0; stage < 3; stage++) {
                // Those to redo are passed by what came to the text, as those to undo are.
                if (stage == 1) {
                    hand.put(Loom.CAME, hand.at(Loom.COMING));
                    held.put(TEXT, loom.weave(Loom.BEHIND, held.at(TEXT), hand.at(Loom.CAME)));
                    movePlaces(hand.at(Loom.CAME), false);
                }
                if (stage == 2) hand.put(Loom.COMING, hand.at(Loom.CAME));
                int n = passedAt(stage);
                for (int k = 0; k < n; k++) {
                    int slot = stage == 0 ? SENT + k : slotOf(stage - 1, n - 1 - k);
                    hand.put(Loom.PASSED, loom.weave(Loom.OVER_SECOND, held.at(slot), hand.at(Loom.COMING)));
                    hand.put(Loom.COMING, loom.weave(Loom.OVER_FIRST, hand.at(Loom.COMING), held.at(slot)));
                    held.put(slot, hand.at(Loom.PASSED));
                }
            }
        }

        /** How many edits pass: what is sent and what waits (0), those to undo (1), to redo (2). */
        private int passedAt(int stage) {
            if (stage > 0) return countOf(stage - 1);
            if (!hasSent) return 0;
            return hasWaiting ? 2 : 1;
        }

        private void movePlaces(int edit, boolean isOwn) {
            place = trees.placeAfter(edit, place, isOwn);
            otherPlace = trees.placeAfter(edit, otherPlace, isOwn);
        }

        private void sendWaiting() {
            held.put(SENT, held.at(WAITING));
            held.put(WAITING, Trees.EMPTY);
            hasSent = hasWaiting;
            isServed = false;
            hasWaiting = false;
        }

        void like(Client other) {
            held.like(other.held);
            undos = other.undos;
            redos = other.redos;
            hasSent = other.hasSent;
            isServed = other.isServed;
            hasWaiting = other.hasWaiting;
            revision = other.revision;
            place = other.place;
            otherPlace = other.otherPlace;
        }
    }

    /** The server's revisions and whose they are; how many of them hold, a meeting knows. */
    private static final class Revisions {
        private final Slots edits;
        private final int[] clients = new int[REVISIONS_MOST];

        Revisions(Trees store) {
            edits = store.newSlots(REVISIONS_MOST);
        }

        int clientAt(int i) {
            return i >= 0 && i < clients.length ? clients[i] : NONE;
        }

        void put(int i, int edit, int client) {
            edits.put(i, edit);
            if (i >= 0 && i < clients.length) clients[i] = client;
        }
    }

    /**
     * The server and its clients: all that an image keeps. A meeting and its image share the
     * revisions, since those that the image counts stay as they are till another image is made.
     */
    private static final class Meeting {
        private final Trees trees;
        private final Revisions revisions;
        private final Client[] clients = new Client[CLIENTS];
        private final Slots server;
        private int count;
        private int seed = 1;

        Meeting(Trees store, Revisions shared) {
            trees = store;
            revisions = shared;
            server = store.newSlots(1);
            for (int c = 0; c < clients.length; c++) clients[c] = new Client(c, store);
        }

        Client clientAt(int c) {
            return c >= 0 && c < clients.length ? clients[c] : null;
        }

        boolean hasText(int c) {
            return c == SERVER || clientAt(c) != null;
        }

        /** The text of a client or (4) of the server. */
        int textAt(int c) {
            Client client = clientAt(c);
            return client == null ? server.at(0) : client.ownText();
        }

        /**
         * What is sent becomes the next revision. As the client has taken it over all that it
         * heard since it was sent, it is what it was when it was sent, taken over those.
         */
        void takeSent(int c, Loom loom) {
            Client client = clientAt(c);
            if (client == null || count >= REVISIONS_MOST) return;
            Slots hand = loom.hand;
            hand.put(Loom.COMING, client.told(0));
            for (int r = client.revision; r < count; r++) {
                hand.put(Loom.COMING, loom.weave(Loom.OVER_SECOND, hand.at(Loom.COMING), revisions.edits.at(r)));
            }
            server.put(0, loom.weave(Loom.BEHIND, server.at(0), hand.at(Loom.COMING)));
            revisions.put(count, hand.at(Loom.COMING), c);
            count++;
            client.isServed = true;
        }

        boolean isSettled() {
            for (int c = 0; c < CLIENTS; c++) {
                Client client = clientAt(c);
                if (client != null && (client.isUnserved() || client.revision < count)) return false;
            }
            return true;
        }

        int clientsAlike() {
            int found = 0;
            for (int c = 0; c < CLIENTS; c++) {
                if (textAt(c) == server.at(0)) found++;
            }
            return found;
        }

        int clientsSending() {
            int found = 0;
            for (int c = 0; c < CLIENTS; c++) {
                Client client = clientAt(c);
                if (client != null && client.hasSent) found++;
            }
            return found;
        }

        long allLetters() {
            long found = trees.to(server.at(0));
            for (int c = 0; c < CLIENTS; c++) found += trees.to(textAt(c));
            return found;
        }

        /** A draw below n. */
        long draw(long n) {
            seed = seed * 1103515245 + 12345;
            return n > 0 ? (seed >>> 16) % n : 0;
        }

        void like(Meeting other) {
            server.like(other.server);
            count = other.count;
            seed = other.seed;
            revisions.edits.dropFrom(count);
            for (int c = 0; c < CLIENTS; c++) {
                Client client = clientAt(c);
                Client his = other.clientAt(c);
                if (client != null && his != null) client.like(his);
            }
        }
    }

    /** Bytes that are read for an edit. */
    private static final class Tape {
        private final Loom loom;
        private final int[] bytes = new int[TAPE_MOST];
        private int size;
        private int place;
        private int fault;
        private boolean isInLetters;
        /** What was read last: an act done with n letters. */
        private int act;
        private int n;

        Tape(Loom user) {
            loom = user;
        }

        void add(int sign) {
            if (size >= 0 && size < bytes.length) bytes[size++] = sign;
        }

        /** Reads all of it into the draft: the fault, or NONE. Behind its end it reads 0, which fits nowhere. */
        int reads() {
            Slots hand = loom.hand;
            hand.put(Loom.DRAFT, Trees.EMPTY);
            place = 0;
            isInLetters = false;
            fault = size == 0 ? 0 : NONE;
            for (int k = 0; k < TAPE_MOST && fault == NONE && place < size; k++) {
                readAct();
                loom.tidy(Trees.EMPTY);
                hand.put(Loom.DRAFT, loom.trees.join(hand.at(Loom.DRAFT), loom.trees.leaf(act, n)));
            }
            return fault;
        }

        /** Reads one letter of an insert, or all of another part; at a fault nothing (n is 0). */
        private void readAct() {
            n = 0;
            int sign = signAt(place);
            if (isInLetters && isLetter(sign)) {
                readLetter();
                return;
            }
            isInLetters = sign == '+';
            if (sign == '+' || sign == '=' || sign == '-' || sign == '^' || sign == '_') place++;
            else fault = place;
            if (sign == '+') readLetter();
            else readOver(sign);
        }

        private void readLetter() {
            int sign = signAt(place);
            if (!isLetter(sign)) {
                fault = place;
                return;
            }
            act = sign - 'a';
            n = 1;
            place++;
        }

        private void readOver(int sign) {
            int letters = readNumber(99);
            if (sign == '=' || sign == '-') {
                act = sign == '=' ? KEEP_ACT : DELETE_ACT;
            } else {
                readDot();
                int bits = readNumber(ALL_BITS);
                act = KEEP_ACT | (sign == '^' ? bits << ON_AT : bits);
            }
            n = fault == NONE ? letters : 0;
        }

        private void readDot() {
            if (fault != NONE) return;
            if (signAt(place) == '.') place++;
            else fault = place;
        }

        /** A number of one or two digits, 1 to most; 0 at a fault. */
        private int readNumber(int most) {
            if (fault != NONE) return 0;
            int start = place;
            int value = 0;
            for (int k = 0; k < 2 && isDigit(signAt(place)); k++) {
                value = 10 * value + signAt(place) - '0';
                place++;
            }
            if (place == start) fault = place;
            else if (value < 1 || value > most) fault = start;
            else if (isDigit(signAt(place))) fault = place;
            return fault == NONE ? value : 0;
        }

        private int signAt(int i) {
            return i >= 0 && i < size && i < bytes.length ? bytes[i] : 0;
        }

        private static boolean isLetter(int sign) {
            return sign >= 'a' && sign <= 'z';
        }

        private static boolean isDigit(int sign) {
            return sign >= '0' && sign <= '9';
        }
    }

    /** Holds nothing, a row of elements, or a part as it was when it was shown. */
    private static final class Shelf {
        private static final int PART_FROM = 10;

        private final long[] elements = new long[ROW_MOST];
        private int held = NONE;
        private long size;
        private int on;
        private int off;
        private int firstLetter;

        boolean holdsNothing() {
            return held == NONE;
        }

        boolean holdsRow() {
            return held >= 0 && held < SORTS;
        }

        boolean holdsPart() {
            return held >= PART_FROM;
        }

        void holdNothing() {
            held = NONE;
            size = 0;
        }

        void holdRow(int sort, int n) {
            held = sort;
            size = n;
            Arrays.fill(elements, 0L);
        }

        /** Of a part the size is how many letters it goes over or inserts. */
        void holdPart(Teller teller, int edit, int i) {
            held = PART_FROM + teller.kindAt(edit, i);
            size = teller.sizeAt(edit, i);
            on = teller.onAt(edit, i);
            off = teller.offAt(edit, i);
            firstLetter = teller.firstLetterAt(edit, i);
        }

        int kind() {
            return held - PART_FROM;
        }

        int answersAs(int kind) {
            switch (kind) {
                case INSERT: return firstLetter;
                case KEEP: return Integer.bitCount(on) + Integer.bitCount(off);
                case DELETE: return told(size + 100);
                case MARK: return 16 * on + off;
                default: return told(size);
            }
        }

        long at(int i) {
            return holdsRow() && i >= 0 && i < size && i < elements.length ? elements[i] : 0L;
        }

        void put(int i, long v) {
            if (i >= 0 && i < size && i < elements.length) elements[i] = lowest(v);
        }

        /** What a sort keeps of a number: its lowest bits; of booleans whether it is 0. */
        private long lowest(long v) {
            switch (held) {
                case 0: return (byte) v;
                case 1: return (short) v;
                case 2: return (int) v;
                case 4: return v != 0 ? 1L : 0L;
                default: return v;
            }
        }

        void takeFrom(Shelf source, int i, int j, int n) {
            if (!isStretch(i, n, source.elements.length) || !isStretch(j, n, elements.length)) return;
            System.arraycopy(source.elements, i, elements, j, n);
        }
    }
}
