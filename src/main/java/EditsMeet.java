import java.util.Arrays;

/**
 * Edits that meet: edits over texts of letters with marks, a server that puts the edits of four
 * clients in an order, and clients that go on while they wait. ../shared/DOC.md says what each
 * call answers; its words in capitals are used here in small letters.
 *
 * All that is needed is made with the object: no call makes anything.
 */
public final class EditsMeet {
    public static final int NONE = -1;

    private static final int BAD = -2;
    private static final int OTHER = -3;
    private static final int NOTHING = -4;
    private static final int STUCK = -5;
    private static final int FULL = -6;

    private static final int PART = 0;
    private static final int INSERT = 1;
    private static final int OVER = 2;
    private static final int KEEP = 3;
    private static final int DELETE = 4;
    private static final int MARK = 5;

    private static final int CLIENTS = 4;
    private static final int SERVER = 4;
    private static final int NUMBERS = 12;
    private static final int SHELVES = 8;
    private static final int SORTS = 5;
    private static final int LETTERS = 26;
    private static final int BITS = 4;
    private static final int ALL_BITS = 15;
    private static final int ROW_MOST = 40;
    private static final int TOLD_MOST = 20;
    private static final int TAPE_MOST = 250;
    private static final int REVISIONS_MOST = 90;
    private static final int KEPT_MOST = 20;
    private static final int TEXT_MOST = 60;
    private static final int DAYS_MOST = 60;
    private static final int LENGTH_MOST = 9999;
    private static final int INSERTED_MOST = 400;
    private static final int ANSWER_MOST = 2147483647;

    /**
     * An act is what is done with one letter: to insert it (the letter in the lowest bits, its marks
     * above them), to delete it, or to mark it (on above off). To turn no bit is to keep.
     */
    private static final int MARKS_AT = 5;
    private static final int LETTER_MASK = 31;
    private static final int DELETE_ACT = 512;
    private static final int KEEP_ACT = 768;
    private static final int ON_AT = 4;

    private final Trees trees = new Trees();
    private final Works works = new Works(trees);
    private final Reader reader = new Reader(works);
    private final Teller teller = new Teller(reader);
    private final Loom loom = new Loom(works, reader);
    private final Tape tape = new Tape(loom);
    /** Slots of works, from this one on. */
    private final int edits = works.newSlots(NUMBERS);
    private final boolean[] areEdits = new boolean[NUMBERS];
    private final Shelf[] shelves = new Shelf[SHELVES];
    private final int[] refusals = new int[5];
    private final Meeting meeting;
    private final Meeting imaged;
    /** What a client was ahead of something that there may be no room for. */
    private final Client ahead = new Client(NONE, works);
    private boolean hasImage;

    public EditsMeet() {
        for (int s = 0; s < shelves.length; s++) shelves[s] = new Shelf();
        int revisions = works.newSlots(REVISIONS_MOST);
        int[] authors = new int[REVISIONS_MOST];
        meeting = new Meeting(works, revisions, authors);
        imaged = new Meeting(works, revisions, authors);
    }

    // ---------------------------------------------------------------- shelves

    public int row(int s, int sort, int n) {
        Shelf shelf = shelfAt(s);
        if (shelf == null || sort < 0 || sort >= SORTS || n < 0 || n > ROW_MOST) return refuse(BAD);
        shelf.holdRow(sort, n);
        return 1;
    }

    public int set(int s, int i, long v) {
        Shelf shelf = shelfAt(s);
        if (shelf == null) return refuse(BAD);
        if (shelf.holdsPart()) return refuse(OTHER);
        if (shelf.holdsNothing()) return refuse(NOTHING);
        if (i < 0 || i >= shelf.size) return refuse(BAD);
        shelf.put(i, v);
        return 1;
    }

    public int copy(int p, int q, int i, int j, int n) {
        Shelf source = shelfAt(p);
        Shelf target = shelfAt(q);
        if (source == null || target == null) return refuse(BAD);
        if (source.holdsPart() || target.holdsPart()) return refuse(OTHER);
        boolean oneIsEmpty = source.holdsNothing() || target.holdsNothing();
        if (!oneIsEmpty && source.held != target.held) return refuse(OTHER);
        if (oneIsEmpty) return refuse(NOTHING);
        if (!isStretch(i, n, source.size) || !isStretch(j, n, target.size)) return refuse(BAD);
        target.takeFrom(source, i, j, n);
        return n;
    }

    public long element(int s, int i) {
        Shelf shelf = shelfAt(s);
        return shelf == null ? 0L : shelf.at(i);
    }

    public int holds(int s) {
        Shelf shelf = shelfAt(s);
        return shelf == null ? NONE : shelf.held;
    }

    public int show(int s, int edit, int i) {
        Shelf shelf = shelfAt(s);
        if (shelf == null || edit != NONE && !isNumber(edit)) return refuse(BAD);
        if (edit == NONE) {
            shelf.holdNothing();
            return 1;
        }
        if (!isEdit(edit)) return refuse(NOTHING);
        if (!teller.seekPart(fetched(works.held(edits + edit)), i)) return refuse(BAD);
        shelf.holdPart(teller);
        return 1;
    }

    public int says(int s, int kind) {
        Shelf shelf = shelfAt(s);
        if (shelf == null || kind < PART || kind > MARK) return refuse(BAD);
        if (shelf.holdsRow()) return refuse(OTHER);
        if (shelf.holdsNothing()) return refuse(NOTHING);
        if (!isUnder(shelf.kind(), kind)) return refuse(OTHER);
        return shelf.answersAs(kind);
    }

    private Shelf shelfAt(int s) {
        return s >= 0 && s < shelves.length ? shelves[s] : null;
    }

    private static boolean isStretch(int start, int n, long size) {
        return n >= 0 && n <= size && start >= 0 && start <= size - n;
    }

    /** Texts may grow longer than an int tells; then it tells the most that it can. */
    private static int told(long n) {
        return n < ANSWER_MOST ? (int) n : ANSWER_MOST;
    }

    private static boolean isUnder(int kind, int asked) {
        if (asked == PART || asked == kind) return true;
        if (asked == OVER) return kind == KEEP || kind == DELETE || kind == MARK;
        return asked == KEEP && kind == MARK;
    }

    // ---------------------------------------------------------------- the tape

    public int feed(int letter) {
        if (letter < 0 || letter > 255) return refuse(BAD);
        if (tape.size >= TAPE_MOST) return refuse(FULL);
        tape.add(letter);
        return tape.size;
    }

    public int wipe() {
        int ahead = tape.size;
        tape.size = 0;
        return ahead;
    }

    public int edit(int edit) {
        int fault = isNumber(edit) ? tape.reads() : NONE;
        int made = works.held(loom.hand + Loom.DRAFT);
        boolean hadNoRoom = works.failed();
        works.letGo(loom.hand, Loom.HAND);
        tape.size = 0;
        if (!isNumber(edit)) return refuse(BAD);
        if (fault != NONE) {
            refuse(BAD);
            return -300 - fault;
        }
        return hadNoRoom ? refuse(FULL) : keep(edit, made);
    }

    // ---------------------------------------------------------------- edits by number

    public int of(int edit, int what) {
        if (!isNumber(edit) || what < 0 || what > 5) return refuse(BAD);
        if (!isEdit(edit)) return refuse(NOTHING);
        int asked = fetched(works.held(edits + edit));
        if (what == 1 || what == 2 || what == 4) measured(asked);
        switch (what) {
            case 0: return told(teller.sumOf(Teller.PARTS, asked));
            case 1: return told(works.from(asked));
            case 2: return told(works.to(asked));
            case 3: return told(teller.sumOf(Teller.INSERTED, asked));
            case 4: return told(works.from(asked) - works.to(asked) + teller.sumOf(Teller.INSERTED, asked));
            default: return told(teller.sumOf(Teller.TURNED, asked));
        }
    }

    public int part(int edit, int i, int what) {
        if (!isNumber(edit) || what < 0 || what > 3) return refuse(BAD);
        if (!isEdit(edit)) return refuse(NOTHING);
        if (!teller.seekPart(fetched(works.held(edits + edit)), i)) return refuse(BAD);
        switch (what) {
            case 0: return teller.kind();
            case 1: return told(teller.partSize);
            case 2: return teller.on();
            default: return teller.off();
        }
    }

    public int letter(int edit, int i, int k) {
        if (!isNumber(edit)) return refuse(BAD);
        if (!isEdit(edit)) return refuse(NOTHING);
        int asked = fetched(works.held(edits + edit));
        if (!teller.seekPart(asked, i)) return refuse(BAD);
        if (teller.kind() != INSERT) return refuse(OTHER);
        if (k < 0 || k >= teller.partSize) return refuse(BAD);
        int found = teller.letterAt(asked, teller.placed + k);
        return (found & LETTER_MASK) + 100 * (found >> MARKS_AT);
    }

    public int spelled(int edit, int i) {
        if (!isNumber(edit)) return refuse(BAD);
        if (!isEdit(edit)) return refuse(NOTHING);
        return teller.signAt(fetched(works.held(edits + edit)), i);
    }

    public int behind(int edit, int a, int b) {
        if (!isNumber(edit) || !isNumber(a) || !isNumber(b)) return refuse(BAD);
        if (!isEdit(a) || !isEdit(b)) return refuse(NOTHING);
        int one = measured(works.held(edits + a));
        int two = measured(works.held(edits + b));
        if (works.from(two) != works.to(one)) return refuse(STUCK);
        if (works.from(one) > LENGTH_MOST || works.to(two) > LENGTH_MOST) return refuse(FULL);
        int made = loom.weave(Loom.BEHIND, one, two);
        return isTooBig(made) ? refuse(FULL) : keep(edit, made);
    }

    public int over(int edit, int a, int b, int first) {
        if (!isNumber(edit) || !isNumber(a) || !isNumber(b)) return refuse(BAD);
        if (first < 0 || first > 1) return refuse(BAD);
        if (!isEdit(a) || !isEdit(b)) return refuse(NOTHING);
        int one = measured(works.held(edits + a));
        int two = measured(works.held(edits + b));
        if (works.from(one) != works.from(two)) return refuse(STUCK);
        if (works.to(two) > LENGTH_MOST) return refuse(FULL);
        int made = loom.weave(first == 1 ? Loom.OVER_FIRST : Loom.OVER_SECOND, one, two);
        return isTooBig(made) ? refuse(FULL) : keep(edit, made);
    }

    public int turned(int edit, int a, int client) {
        Client owner = meeting.clientAt(client);
        if (!isNumber(edit) || !isNumber(a) || owner == null) return refuse(BAD);
        if (!isEdit(a)) return refuse(NOTHING);
        int one = measured(works.held(edits + a));
        int text = measured(owner.ownText());
        if (works.from(one) != works.to(text)) return refuse(STUCK);
        if (works.from(one) > LENGTH_MOST || works.to(one) > LENGTH_MOST) return refuse(FULL);
        int made = loom.weave(Loom.TURN, one, text);
        return isTooBig(made) ? refuse(FULL) : keep(edit, made);
    }

    public int differ(int a, int b) {
        if (!isNumber(a) || !isNumber(b)) return refuse(BAD);
        if (!isEdit(a) || !isEdit(b)) return refuse(NOTHING);
        int one = fetched(works.held(edits + a));
        works.hold(loom.hand + Loom.PINNED, one);
        int two = fetched(works.held(edits + b));
        works.letGo(loom.hand, Loom.HAND);
        return told(teller.firstUnlikePart(one, two));
    }

    private static boolean isNumber(int edit) {
        return edit >= 0 && edit < NUMBERS;
    }

    private boolean isEdit(int edit) {
        return edit >= 0 && edit < areEdits.length && areEdits[edit];
    }

    /** An edit or a text that is asked about: it is there then, or it can be read. */
    private int fetched(int work) {
        return loom.weave(Loom.FETCH, work, Works.EMPTY);
    }

    /** An edit or a text whose lengths are asked: they are known then. */
    private int measured(int work) {
        if (works.to(work) != NONE) return work;
        loom.weave(Loom.FETCH, work, Works.EMPTY);
        if (works.to(work) == NONE) reader.measure(work);
        return work;
    }

    /** An edit that is there gets that number: how many parts it has. */
    private int keep(int edit, int made) {
        if (edit < 0 || edit >= areEdits.length) return 0;
        areEdits[edit] = true;
        works.hold(edits + edit, made);
        return told(teller.sumOf(Teller.PARTS, made));
    }

    /** Whether what was woven is too big to be kept by number. */
    private boolean isTooBig(int made) {
        boolean hadNoRoom = works.failed();
        works.letGo(loom.hand, Loom.HAND);
        if (hadNoRoom || works.from(made) > LENGTH_MOST) return true;
        if (works.to(made) == NONE) reader.measure(made);
        return works.to(made) > LENGTH_MOST || teller.sumOf(Teller.INSERTED, made) > INSERTED_MOST;
    }

    // ---------------------------------------------------------------- what clients do

    public int does(int client, int edit) {
        Client doer = meeting.clientAt(client);
        measured(meeting.textAt(client));
        if (doer == null || !isNumber(edit)) return refuse(BAD);
        if (!isEdit(edit)) return refuse(NOTHING);
        int done = measured(works.held(edits + edit));
        if (works.from(done) != doer.size()) return refuse(STUCK);
        if (doer.isTooLongBy(done)) return refuse(FULL);
        ahead.like(doer);
        works.hold(loom.hand + Loom.DRAFT, done);
        doer.clear(Client.REDO);
        doer.doDraft(Client.UNDO, loom);
        return hasNoRoom(doer) ? refuse(FULL) : told(doer.size());
    }

    public int insert(int client, int place, int letter, int marks) {
        Client doer = meeting.clientAt(client);
        measured(meeting.textAt(client));
        if (doer == null || place < 0 || place > doer.size()) return refuse(BAD);
        if (letter < 0 || letter >= LETTERS || marks < 0 || marks > ALL_BITS) return refuse(BAD);
        if (doer.size() >= TEXT_MOST) return refuse(FULL);
        ahead.like(doer);
        loom.draft(place, letter | (marks << MARKS_AT), 1, doer.size() - place);
        doer.clear(Client.REDO);
        doer.doDraft(Client.UNDO, loom);
        return hasNoRoom(doer) ? refuse(FULL) : told(doer.size());
    }

    public int cut(int client, int place, int n) {
        Client doer = meeting.clientAt(client);
        measured(meeting.textAt(client));
        if (doer == null || n < 1 || !isStretch(place, n, doer.size())) return refuse(BAD);
        ahead.like(doer);
        loom.draft(place, DELETE_ACT, n, doer.size() - place - n);
        doer.clear(Client.REDO);
        doer.doDraft(Client.UNDO, loom);
        return hasNoRoom(doer) ? refuse(FULL) : told(doer.size());
    }

    public int mark(int client, int place, int n, int bit, int is) {
        Client doer = meeting.clientAt(client);
        measured(meeting.textAt(client));
        if (doer == null || n < 1 || !isStretch(place, n, doer.size())) return refuse(BAD);
        if (bit < 0 || bit >= BITS || is < 0 || is > 1) return refuse(BAD);
        int bits = is == 1 ? 1 << bit << ON_AT : 1 << bit;
        ahead.like(doer);
        loom.draft(place, KEEP_ACT | bits, n, doer.size() - place - n);
        doer.clear(Client.REDO);
        doer.doDraft(Client.UNDO, loom);
        // What turns it turns back the letters that had it otherwise, and those alone.
        int turned = loom.weave(Loom.FETCH, doer.latest(Client.UNDO), Works.EMPTY);
        return hasNoRoom(doer) ? refuse(FULL) : told(teller.sumOf(Teller.TURNED, turned));
    }

    public int undo(int client) {
        Client doer = meeting.clientAt(client);
        measured(meeting.textAt(client));
        if (doer == null) return refuse(BAD);
        measured(doer.latest(Client.UNDO));
        int why = whyNotAgain(doer, Client.UNDO);
        if (why != 0) return refuse(why);
        ahead.like(doer);
        doer.draftLatest(Client.UNDO, loom);
        doer.doDraft(Client.REDO, loom);
        return hasNoRoom(doer) ? refuse(FULL) : doer.countOf(Client.UNDO);
    }

    public int redo(int client) {
        Client doer = meeting.clientAt(client);
        measured(meeting.textAt(client));
        if (doer == null) return refuse(BAD);
        measured(doer.latest(Client.REDO));
        int why = whyNotAgain(doer, Client.REDO);
        if (why != 0) return refuse(why);
        ahead.like(doer);
        doer.draftLatest(Client.REDO, loom);
        doer.doDraft(Client.UNDO, loom);
        return hasNoRoom(doer) ? refuse(FULL) : doer.countOf(Client.REDO);
    }

    public int point(int client, int place, int other) {
        Client asked = meeting.clientAt(client);
        measured(meeting.textAt(client));
        if (asked == null) return refuse(BAD);
        long most = asked.size();
        if (place < 0 || place > most || other < 0 || other > most) return refuse(BAD);
        asked.place = place;
        asked.otherPlace = other;
        return 1;
    }

    /** Whether there was no room for what a client did, was served or heard; then it is again as it was ahead. */
    private boolean hasNoRoom(Client client) {
        boolean hadNoRoom = works.failed();
        if (hadNoRoom) client.like(ahead);
        works.letGo(ahead.held, Client.HELD);
        works.letGo(loom.hand, Loom.HAND);
        return hadNoRoom;
    }

    /** STUCK or FULL, if the latest of these can't be done; else 0. */
    private static int whyNotAgain(Client doer, int history) {
        if (doer.countOf(history) < 1) return STUCK;
        return doer.isTooLongBy(doer.latest(history)) ? FULL : 0;
    }

    // ---------------------------------------------------------------- server and clients

    public int serve(int client) {
        Client sender = meeting.clientAt(client);
        if (sender == null) return refuse(BAD);
        if (!sender.isUnserved()) return refuse(STUCK);
        if (meeting.count >= REVISIONS_MOST) return refuse(FULL);
        ahead.like(sender);
        meeting.takeSent(client, loom);
        return hasNoRoom(sender) ? refuse(FULL) : meeting.count;
    }

    public int hear(int client) {
        Client hearer = meeting.clientAt(client);
        if (hearer == null) return refuse(BAD);
        if (hearer.revision >= meeting.count) return refuse(STUCK);
        ahead.like(hearer);
        hearer.hearNext(meeting.revisions, meeting.authors, loom);
        return hasNoRoom(hearer) ? refuse(FULL) : hearer.revision;
    }

    public int meet() {
        // What waits is sent by the first round and served by the next, so a few rounds do.
        for (int round = 0; round <= REVISIONS_MOST && !meeting.isSettled(); round++) {
            for (int c = 0; c < CLIENTS; c++) {
                Client sender = meeting.clientAt(c);
                if (sender == null || !sender.isUnserved()) continue;
                if (meeting.count >= REVISIONS_MOST) return refuse(FULL);
                ahead.like(sender);
                meeting.takeSent(c, loom);
                if (hasNoRoom(sender)) return refuse(FULL);
            }
            for (int c = 0; c < CLIENTS; c++) {
                Client hearer = meeting.clientAt(c);
                int behind = hearer == null ? 0 : meeting.count - hearer.revision;
                for (int k = 0; k < behind; k++) {
                    ahead.like(hearer);
                    hearer.hearNext(meeting.revisions, meeting.authors, loom);
                    if (hasNoRoom(hearer)) return refuse(FULL);
                }
            }
        }
        return meeting.count;
    }

    public int cursor(int client, int what) {
        Client asked = meeting.clientAt(client);
        if (asked == null || what < 0 || what > 1) return refuse(BAD);
        return told(what == 0 ? asked.place : asked.otherPlace);
    }

    public int clientOf(int client, int what) {
        Client asked = meeting.clientAt(client);
        if (asked == null || what < 0 || what > 6) return refuse(BAD);
        switch (what) {
            case 0: return asked.revision;
            case 2: return asked.hasSent && asked.isServed ? 1 : 0;
            case 1: case 3: return told(teller.sumOf(Teller.PARTS, fetched(asked.told(what / 2))));
            case 4: return asked.countOf(Client.UNDO);
            case 5: return asked.countOf(Client.REDO);
            default: return meeting.count - asked.revision;
        }
    }

    public int takes(int edit, int client, int what) {
        Client asked = meeting.clientAt(client);
        if (!isNumber(edit) || asked == null || what < 0 || what > 3) return refuse(BAD);
        if (!asked.has(what)) return refuse(STUCK);
        return keep(edit, fetched(asked.told(what)));
    }

    public int revision(int edit, int n) {
        if (!isNumber(edit) || n < 1 || n > meeting.count) return refuse(BAD);
        areEdits[edit] = true;
        works.hold(edits + edit, works.held(meeting.revisions + n - 1));
        return meeting.authorAt(n - 1);
    }

    // ---------------------------------------------------------------- texts

    public int length(int client) {
        if (!meeting.hasText(client)) return refuse(BAD);
        return told(works.to(measured(meeting.textAt(client))));
    }

    public int text(int client, int place, int what) {
        int asked = measured(meeting.textAt(client));
        if (!meeting.hasText(client) || place < 0 || place >= works.to(asked)) return refuse(BAD);
        if (what < 0 || what > 1) return refuse(BAD);
        int found = teller.letterAt(fetched(asked), place);
        return what == 0 ? found & LETTER_MASK : found >> MARKS_AT;
    }

    public int apart(int client, int other) {
        if (!meeting.hasText(client) || !meeting.hasText(other)) return refuse(BAD);
        int one = fetched(meeting.textAt(client));
        works.hold(loom.hand + Loom.PINNED, one);
        int two = fetched(meeting.textAt(other));
        works.letGo(loom.hand, Loom.HAND);
        return told(teller.firstUnlikePlace(one, two));
    }

    public int marked(int client, int bit) {
        if (!meeting.hasText(client) || bit < 0 || bit > BITS) return refuse(BAD);
        return teller.lettersMarked(fetched(meeting.textAt(client)), bit);
    }

    public int judge(int client, int s, int n) {
        Shelf shelf = shelfAt(s);
        if (!meeting.hasText(client) || shelf == null || n < 0 || n > TOLD_MOST) return refuse(BAD);
        if (shelf.holdsPart()) return refuse(OTHER);
        if (shelf.holdsNothing()) return refuse(NOTHING);
        if (shelf.size < 2 * n) return refuse(BAD);
        int text = measured(meeting.textAt(client));
        int both = told(Math.min(n, works.to(text)));
        fetched(text);
        for (int i = 0; i < both; i++) {
            int found = teller.letterAt(text, i);
            if (shelf.at(2 * i) != (found & LETTER_MASK)) return i;
            if (shelf.at(2 * i + 1) != found >> MARKS_AT) return i;
        }
        return works.to(text) == n ? NONE : both;
    }

    // ---------------------------------------------------------------- days by draws

    public int days(int n) {
        if (n < 1 || n > DAYS_MOST) return refuse(BAD);
        int busy = 0;
        for (int day = 0; day < n; day++) {
            int client = (int) meeting.draw(CLIENTS);
            int deed = (int) meeting.draw(8);
            Client doer = meeting.clientAt(client);
            measured(meeting.textAt(client));
            if (doer != null && deed == 5) measured(doer.latest(Client.UNDO));
            if (doer == null || !canBe(doer, deed)) continue;
            ahead.like(doer);
            if (deed <= 4) {
                draftByDraws(doer, deed);
                doer.clear(Client.REDO);
                doer.doDraft(Client.UNDO, loom);
            } else if (deed == 5) {
                doer.draftLatest(Client.UNDO, loom);
                doer.doDraft(Client.REDO, loom);
            } else if (deed == 6) {
                meeting.takeSent(client, loom);
            } else {
                doer.hearNext(meeting.revisions, meeting.authors, loom);
            }
            if (!hasNoRoom(doer)) busy++;
        }
        return busy;
    }

    public int seed(int v) {
        int ahead = meeting.seed;
        meeting.seed = v;
        return ahead;
    }

    /** Whether a deed of a day can be; what can't be draws nothing more. */
    private boolean canBe(Client doer, int deed) {
        if (deed <= 2) return doer.size() < TEXT_MOST;
        if (deed <= 4) return doer.size() > 0;
        if (deed == 5) return whyNotAgain(doer, Client.UNDO) == 0;
        if (deed == 6) return doer.isUnserved() && meeting.count < REVISIONS_MOST;
        return doer.revision < meeting.count;
    }

    /** A letter is inserted (0 to 2), deleted (3) or marked (4). */
    private void draftByDraws(Client doer, int deed) {
        long n = doer.size();
        if (deed <= 2) {
            int letter = (int) meeting.draw(LETTERS);
            long place = meeting.draw(n + 1);
            loom.draft(place, letter, 1, n - place);
            return;
        }
        long place = meeting.draw(n);
        int act = deed == 3 ? DELETE_ACT : KEEP_ACT | (1 << meeting.draw(BITS) << ON_AT);
        loom.draft(place, act, 1, n - place - 1);
    }

    // ---------------------------------------------------------------- kept and told

    public int image() {
        imaged.like(meeting);
        hasImage = true;
        return 1;
    }

    public int back() {
        if (!hasImage) return refuse(STUCK);
        meeting.like(imaged);
        return 1;
    }

    public int status(int what) {
        switch (what) {
            case 0: return meeting.count;
            case 1: return clientsAlike();
            case 2: return editsByNumber();
            case 3: return told(allLetters());
            case 4: return meeting.clientsSending();
            case 5: return tape.size;
            case 6: return meeting.seed;
            case 7: return shelvesInUse();
            default:
                int refusal = what - 12;
                return refusal >= 0 && refusal < refusals.length ? refusals[refusal] : NONE;
        }
    }

    /** How many clients have the server's text. */
    private int clientsAlike() {
        int found = 0;
        for (int c = 0; c < CLIENTS; c++) {
            int one = loom.weave(Loom.FETCH, meeting.textAt(SERVER), Works.EMPTY);
            works.hold(loom.hand + Loom.PINNED, one);
            int two = loom.weave(Loom.FETCH, meeting.textAt(c), Works.EMPTY);
            boolean areThere = works.isThere(one) && works.isThere(two);
            if (areThere ? works.node(one) == works.node(two) : teller.readAlike(one, two)) found++;
        }
        works.letGo(loom.hand, Loom.HAND);
        return found;
    }

    private long allLetters() {
        long found = 0;
        for (int c = 0; c <= SERVER; c++) {
            int text = meeting.textAt(c);
            if (works.to(text) == NONE) loom.weave(Loom.FETCH, text, Works.EMPTY);
            if (works.to(text) == NONE) reader.measure(text);
            found += works.to(text);
        }
        return found;
    }

    private int editsByNumber() {
        int found = 0;
        for (int i = 0; i < areEdits.length; i++) {
            if (areEdits[i]) found++;
        }
        return found;
    }

    private int shelvesInUse() {
        int found = 0;
        for (int s = 0; s < shelves.length; s++) {
            if (shelves[s] != null && !shelves[s].holdsNothing()) found++;
        }
        return found;
    }

    private int refuse(int why) {
        int i = BAD - why;
        if (i >= 0 && i < refusals.length) refusals[i]++;
        return why;
    }

    /** What a row of nodes has at a place. */
    private static int nodeAt(int[] row, int i) {
        return i >= 0 && i < row.length ? row[i] : Trees.EMPTY;
    }

    private static void putNode(int[] row, int i, int node) {
        if (i >= 0 && i < row.length) row[i] = node;
    }

    // ---------------------------------------------------------------- classes inside

    /**
     * Edits are trees that never change and share what is alike in them, since clients that each
     * replace the whole text make it four times as long in a few calls, and again: millions of letters
     * or parts then take hardly more room than some. A node is an act done with one letter, a run (so
     * many times the same node) or a pair of two that stand next to one another. No two nodes are made
     * of the same, and what an edit holds tells alone how it is made of nodes (see Seam): so edits that
     * hold the same are one node, and those that are unlike are two. A text is an edit of nothing.
     */
    private static final class Trees {
        private static final int EMPTY = 0;
        private static final int FROM = 0;
        private static final int TO = 1;
        /** Nodes 1 to this one are the acts, each done with one letter. */
        private static final int ACTS = 1024;
        private static final int NODES_MOST = 1700000;
        private static final int LEVELS_MOST = 511;
        /** Runs and pairs take turns at most. */
        private static final int DEPTH_MOST = 2 * LEVELS_MOST + 2;
        /** More than one step of a loom needs. */
        private static final int ROOM_AHEAD = 1 << 13;
        /** So much is wanted when room is made. */
        private static final int ROOM_WANTED = 1 << 18;
        /** How often room may be made for one edit. */
        private static final int TRIES_MOST = 48;
        private static final int FEW_MOST = 1 << 16;

        /** Rows that are used by turns: by a loom and a teller for what they remember, by a reader for its windows. */
        private static final int POOL = 1200000;

        /** The shape of a node: its right node (EMPTY: it is a run of the left one), its left one, its level, its ends. */
        private static final int ID_BITS = 21;
        private static final int ID_MASK = (1 << ID_BITS) - 1;
        private static final int LEVEL_AT = 2 * ID_BITS;
        private static final long BEGINS_WITH_LETTER = 1L << 51;
        private static final long ENDS_WITH_LETTER = 1L << 52;
        private static final long ENDS_WITH_DELETE = 1L << 53;
        private static final long HAS_DELETE = 1L << 54;
        private static final long IS_REACHED = 1L << 55;
        private static final int LEAVES_AT = 56;
        private static final int LEAVES_MOST = 255;
        /** What a run has as well as what it repeats. */
        private static final long KEPT_BY_RUNS = (1L << LEAVES_AT) - (1L << LEVEL_AT);

        /** A size is two numbers; where the lower one is the highest of all, they stand in the big rows, at the upper one. */
        private static final int SIZE_BITS = 32;
        private static final long SIZE_MASK = (1L << SIZE_BITS) - 1;
        private static final int BIG_MOST = 1 << 16;

        /** Each number knows three nodes; a third of the places at least is empty. */
        private static final int KNOWN_MOST = NODES_MOST / 2;
        private static final int KNOWN_EACH = 3;
        private static final int PLACES_MOST = KNOWN_EACH * KNOWN_MOST;
        private static final long SPREAD = 0x9E3779B97F4A7C15L;
        private static final long OTHER_SPREAD = 0xBF58476D1CE4E5B9L;
        private static final int SPREAD_SHIFT = 32;

        private final int[] trail = new int[2 * DEPTH_MOST];
        private final int[] few = new int[FEW_MOST];
        private final long[] shapes = new long[NODES_MOST];
        private final long[] sizes = new long[NODES_MOST];
        private final long[] bigFrom = new long[BIG_MOST];
        private final long[] bigTo = new long[BIG_MOST];
        private final long[] known = new long[KNOWN_MOST];
        private final long[] pool = new long[POOL];
        private int free = NODES_MOST - 1 - ACTS;
        private int next = ACTS + 1;
        private int nextBig;
        private int freeBig = BIG_MOST;
        private int used = ACTS + 1;
        private int tries;
        private int tidied;
        /** Whether there was no room for something that was to be made. */
        private boolean hasFailed;

        Trees() {
            for (int act = 0; act < ACTS; act++) {
                boolean isDelete = act == DELETE_ACT;
                boolean isLetter = act < DELETE_ACT;
                long deletes = isDelete ? ENDS_WITH_DELETE | HAS_DELETE : 0L;
                shapes[act + 1] = (isLetter ? BEGINS_WITH_LETTER | ENDS_WITH_LETTER : deletes) | (1L << LEAVES_AT);
                sizes[act + 1] = (isLetter ? 0L : 1L << SIZE_BITS) | (isDelete ? 0L : 1L);
            }
        }

        // ------------------------------------------------------------ what a node says

        /** Of a run what it repeats. */
        int left(int node) {
            return node > EMPTY && node < NODES_MOST ? (int) (shapes[node] >> ID_BITS) & ID_MASK : EMPTY;
        }

        int right(int node) {
            return node > EMPTY && node < NODES_MOST ? (int) shapes[node] & ID_MASK : EMPTY;
        }

        /** The level at which its two became a pair; of a run that of what it repeats; of acts 0. */
        int level(int node) {
            return node > EMPTY && node < NODES_MOST ? (int) (shapes[node] >> LEVEL_AT) & LEVELS_MOST : 0;
        }

        /** How many leaves it has; those that have very many are told alike. */
        int leaves(int node) {
            return node > EMPTY && node < NODES_MOST ? (int) (shapes[node] >>> LEAVES_AT) : 0;
        }

        /** What a run repeats; of others the node itself. */
        int base(int node) {
            if (node <= EMPTY || node >= NODES_MOST) return EMPTY;
            int left = (int) (shapes[node] >> ID_BITS) & ID_MASK;
            return left == EMPTY || ((int) shapes[node] & ID_MASK) != EMPTY ? node : left;
        }

        /** How often a run repeats it; of others 1. */
        long times(int node) {
            if (node <= EMPTY || node >= NODES_MOST) return 0L;
            int left = (int) (shapes[node] >> ID_BITS) & ID_MASK;
            if (left == EMPTY || left >= NODES_MOST || ((int) shapes[node] & ID_MASK) != EMPTY) return 1L;
            long all = (sizes[node] >>> SIZE_BITS) + (sizes[node] & SIZE_MASK);
            long each = (sizes[left] >>> SIZE_BITS) + (sizes[left] & SIZE_MASK);
            int big = (int) (sizes[node] >>> SIZE_BITS);
            if ((sizes[node] & SIZE_MASK) == SIZE_MASK && big >= 0 && big < BIG_MOST) all = bigFrom[big] + bigTo[big];
            big = (int) (sizes[left] >>> SIZE_BITS);
            if ((sizes[left] & SIZE_MASK) == SIZE_MASK && big >= 0 && big < BIG_MOST) each = bigFrom[big] + bigTo[big];
            return each > 0 ? all / each : 1L;
        }

        boolean isPair(int node) {
            return right(node) != EMPTY;
        }

        /** Whether it is one act alone, done with one letter or more. */
        boolean isLeaf(int node) {
            return base(node) <= ACTS;
        }

        /** The act of a leaf; NONE of others. */
        int act(int node) {
            int base = base(node);
            return base > EMPTY && base <= ACTS ? base - 1 : NONE;
        }

        /** How long a text must be for it. */
        long from(int node) {
            if (node <= EMPTY || node >= NODES_MOST) return 0L;
            int big = (int) (sizes[node] >>> SIZE_BITS);
            if ((sizes[node] & SIZE_MASK) != SIZE_MASK) return sizes[node] >>> SIZE_BITS;
            return big >= 0 && big < BIG_MOST ? bigFrom[big] : 0L;
        }

        /** How long the text is then. */
        long to(int node) {
            if (node <= EMPTY || node >= NODES_MOST) return 0L;
            int big = (int) (sizes[node] >>> SIZE_BITS);
            if ((sizes[node] & SIZE_MASK) != SIZE_MASK) return sizes[node] & SIZE_MASK;
            return big >= 0 && big < BIG_MOST ? bigTo[big] : 0L;
        }

        long size(int axis, int node) {
            return axis == FROM ? from(node) : to(node);
        }

        /** With how many letters a leaf does its act. */
        long count(int leaf) {
            return Math.max(from(leaf), to(leaf));
        }

        boolean beginsWithLetter(int node) {
            return node > EMPTY && node < NODES_MOST && (shapes[node] & BEGINS_WITH_LETTER) != 0;
        }

        boolean endsWithLetter(int node) {
            return node > EMPTY && node < NODES_MOST && (shapes[node] & ENDS_WITH_LETTER) != 0;
        }

        boolean endsWithDelete(int node) {
            return node > EMPTY && node < NODES_MOST && (shapes[node] & ENDS_WITH_DELETE) != 0;
        }

        boolean hasDelete(int node) {
            return node > EMPTY && node < NODES_MOST && (shapes[node] & HAS_DELETE) != 0;
        }

        /** 1, if one insert goes on from the one to the other; else 0. */
        int seam(int one, int two) {
            return endsWithLetter(one) && beginsWithLetter(two) ? 1 : 0;
        }

        /** The act at a place of the new text: a letter with its marks, if it is inserted. */
        int actAt(int root, long place) {
            int node = root;
            long inside = place;
            for (int depth = 0; depth < DEPTH_MOST && !isLeaf(node); depth++) {
                int first = left(node);
                long ahead = to(first);
                if (!isPair(node)) {
                    inside = ahead > 0 ? inside % ahead : 0;
                    node = first;
                } else if (inside < ahead) {
                    node = first;
                } else {
                    inside -= ahead;
                    node = right(node);
                }
            }
            return Math.max(act(node), 0);
        }

        /** How much of the old text is ahead of where a letter of the new one comes from. */
        long fromAt(int root, long place) {
            int node = root;
            long inside = place;
            long passed = 0;
            for (int depth = 0; depth < DEPTH_MOST && base(node) > ACTS; depth++) {
                int first = left(node);
                long ahead = to(first);
                if (right(node) == EMPTY) {
                    long whole = ahead > 0 ? inside / ahead : 0;
                    passed += whole * from(first);
                    inside -= whole * ahead;
                    node = first;
                } else if (inside < ahead) {
                    node = first;
                } else {
                    passed += from(first);
                    inside -= ahead;
                    node = right(node);
                }
            }
            return passed + (from(node) > 0 ? Math.min(inside, from(node)) : 0);
        }

        /**
         * Where a place goes: to where what the edit makes of all that is ahead of it ends, with the
         * letters that are inserted at the place itself, if it is the client's own edit.
         */
        long placeAfter(int root, long place, boolean isOwn) {
            int node = root;
            long inside = place;
            long moved = 0;
            for (int depth = 0; depth < DEPTH_MOST && from(node) > 0 && !isLeaf(node); depth++) {
                int first = left(node);
                long ahead = from(first);
                if (!isPair(node)) {
                    long whole = Math.min(isOwn ? inside : Math.max(inside - 1, 0), from(node) - 1);
                    long passed = ahead > 0 ? whole / ahead : 0;
                    inside -= passed * ahead;
                    moved += passed * to(first);
                    node = first;
                } else if (inside > ahead || inside == ahead && isOwn) {
                    inside -= ahead;
                    moved += to(first);
                    node = right(node);
                } else if (inside == ahead && !endsWithLetter(first)) {
                    return moved + to(first);
                } else {
                    node = first;
                }
            }
            if (from(node) == 0) return isOwn ? moved + to(node) : moved;
            return act(node) == DELETE_ACT ? moved : moved + Math.min(inside, from(node));
        }

        // ------------------------------------------------------------ how nodes are made

        /** An act done with so many letters. */
        int leaf(int act, long n) {
            if (act < 0 || act >= ACTS || n < 1) return EMPTY;
            if (n == 1) return act + 1;
            return made(shapes[act + 1] | ((act + 1L) << ID_BITS), n * from(act + 1), n * to(act + 1));
        }

        /** So many times the same; it must be no run itself. */
        int run(int base, long n) {
            if (base <= EMPTY || base >= NODES_MOST || n < 1) return EMPTY;
            if (n == 1) return base;
            long leaves = base <= ACTS ? 1 : Math.min(LEAVES_MOST, n < LEAVES_MOST ? n * leaves(base) : LEAVES_MOST);
            long shape = (shapes[base] & KEPT_BY_RUNS) | (leaves << LEAVES_AT) | ((long) base << ID_BITS);
            return made(shape, n * from(base), n * to(base));
        }

        /** Two unlike ones, one behind the other, that became one at a level. */
        int pair(int one, int two, int level) {
            if (one <= EMPTY || two <= EMPTY || one >= NODES_MOST || two >= NODES_MOST) return Math.max(one, two);
            long ends = (shapes[one] & BEGINS_WITH_LETTER) | (shapes[two] & (ENDS_WITH_LETTER | ENDS_WITH_DELETE));
            long leaves = Math.min(LEAVES_MOST, leaves(one) + leaves(two));
            ends |= (shapes[one] | shapes[two]) & HAS_DELETE;
            long shape = ends | ((long) level << LEVEL_AT) | (leaves << LEAVES_AT);
            return made(shape | ((long) one << ID_BITS) | two, from(one) + from(two), to(one) + to(two));
        }

        /** The node that is made so, a new one if there is none. */
        private int made(long shape, long itsFrom, long itsTo) {
            int place = placeOf(shape, itsFrom + itsTo);
            int found = knownAt(place);
            for (int probe = 0; probe < PLACES_MOST && found > EMPTY && found < NODES_MOST; probe++) {
                if (shapes[found] == shape && from(found) == itsFrom && to(found) == itsTo) return found;
                place = place + 1 < PLACES_MOST ? place + 1 : 0;
                found = knownAt(place);
            }
            int made = spare();
            if (made <= EMPTY || made >= NODES_MOST || !putSize(made, itsFrom, itsTo)) {
                hasFailed = true;
                return (int) (shape >> ID_BITS) & ID_MASK;
            }
            shapes[made] = shape;
            know(made, place);
            free--;
            if (used <= made) used = made + 1;
            return made;
        }

        /** A node that is free; EMPTY, if there is none. */
        private int spare() {
            for (; next < NODES_MOST; next++) {
                if (shapes[next] == 0) return next;
            }
            return EMPTY;
        }

        private boolean putSize(int node, long itsFrom, long itsTo) {
            if (itsFrom <= SIZE_MASK && itsTo < SIZE_MASK) {
                sizes[node] = (itsFrom << SIZE_BITS) | itsTo;
                return true;
            }
            for (; nextBig < BIG_MOST; nextBig++) {
                if (bigFrom[nextBig] != 0 || bigTo[nextBig] != 0) continue;
                freeBig--;
                bigFrom[nextBig] = itsFrom;
                bigTo[nextBig] = itsTo;
                sizes[node] = ((long) nextBig << SIZE_BITS) | SIZE_MASK;
                return true;
            }
            return false;
        }

        private static int placeOf(long shape, long size) {
            long mixed = (shape * SPREAD + size) * OTHER_SPREAD;
            return (int) (((mixed ^ (mixed >>> SPREAD_SHIFT)) & (-1L >>> 1)) % PLACES_MOST);
        }

        private int knownAt(int place) {
            int at = place / KNOWN_EACH;
            if (at < 0 || at >= KNOWN_MOST) return EMPTY;
            return (int) (known[at] >>> ID_BITS * (place - KNOWN_EACH * at)) & ID_MASK;
        }

        private void know(int node, int place) {
            int at = place / KNOWN_EACH;
            if (at >= 0 && at < KNOWN_MOST) known[at] |= (long) node << ID_BITS * (place - KNOWN_EACH * at);
        }

        // ------------------------------------------------------------ what is thrown away

        boolean isScarce() {
            return Math.min(free, freeBig) < ROOM_AHEAD;
        }

        /** Room was made; whether that is enough is seen now. */
        void endTidying() {
            tries++;
            if (Math.min(free, freeBig) < 2 * ROOM_AHEAD || tries > TRIES_MOST) hasFailed = true;
        }

        /** Whether there was no room for something since this was asked last. */
        boolean failed() {
            boolean hadNoRoom = hasFailed;
            hasFailed = false;
            tries = 0;
            return hadNoRoom;
        }

        /** Whether there is room for much that is to come. */
        boolean isRoomy() {
            return free >= ROOM_WANTED && freeBig >= 2 * ROOM_AHEAD;
        }

        /** Whether a node is made of no more than so many. */
        boolean hasFewNodes(int root, int most) {
            int found = 0;
            int top = 0;
            trail[top++] = root;
            for (int step = 0; step <= 2 * most + 2 && top > 0 && found <= most; step++) {
                int node = trail[--top];
                if (node <= ACTS || node >= NODES_MOST || (shapes[node] & IS_REACHED) != 0) continue;
                shapes[node] |= IS_REACHED;
                if (found < few.length) few[found] = node;
                found++;
                if (top + 1 >= trail.length) continue;
                trail[top++] = right(node);
                trail[top++] = left(node);
            }
            for (int i = 0; i < found && i < few.length; i++) shapes[few[i]] &= ~IS_REACHED;
            return top == 0 && found <= most;
        }

        /** Throws away what nobody holds: one, and those in two rows. */
        void tidy(int held, int[] others, int[] more) {
            reach(held);
            for (int i = 0; i < others.length; i++) reach(others[i]);
            for (int i = 0; i < more.length; i++) reach(more[i]);
            Arrays.fill(known, 0L);
            free = NODES_MOST - 1 - ACTS;
            next = ACTS + 1;
            nextBig = 0;
            for (int node = next; node < used && node < NODES_MOST; node++) {
                if ((shapes[node] & IS_REACHED) == 0) throwAway(node);
                else knowAgain(node);
            }
            tidied++;
        }

        private void throwAway(int node) {
            int big = (int) (sizes[node] >>> SIZE_BITS);
            if ((sizes[node] & SIZE_MASK) == SIZE_MASK && big >= 0 && big < BIG_MOST) {
                freeBig++;
                bigFrom[big] = 0;
                bigTo[big] = 0;
            }
            sizes[node] = 0;
            shapes[node] = 0;
        }

        private void knowAgain(int node) {
            shapes[node] &= ~IS_REACHED;
            int place = placeOf(shapes[node], from(node) + to(node));
            for (int probe = 0; probe < PLACES_MOST && knownAt(place) != EMPTY; probe++) {
                place = place + 1 < PLACES_MOST ? place + 1 : 0;
            }
            know(node, place);
            free--;
        }

        private void reach(int root) {
            int top = 0;
            trail[top++] = root;
            for (int step = 0; step <= 2 * NODES_MOST && top > 0; step++) {
                int node = trail[--top];
                if (node <= ACTS || node >= NODES_MOST || (shapes[node] & IS_REACHED) != 0) continue;
                shapes[node] |= IS_REACHED;
                if (top + 1 >= trail.length) continue;
                trail[top++] = right(node);
                trail[top++] = left(node);
            }
        }
    }

    /**
     * Edits and texts that somebody holds, by number. Each is a node; but of those that need much room
     * it is known of which two they were woven, too, so their nodes may be given up when room is
     * scarce, and woven anew when they are asked for. What is too big to be a node is known so alone,
     * and read run by run (see Reader): there is no bound for how many there are, nor for what they hold.
     */
    private static final class Works {
        /** The edit of nothing that does nothing. */
        private static final int EMPTY = 0;
        private static final int SLOTS_MOST = 512;
        private static final int WORK_BITS = 16;
        private static final int WORKS_MOST = 1 << WORK_BITS;
        private static final int WORK_MASK = WORKS_MOST - 1;
        private static final int WAY_AT = 2 * WORK_BITS;
        private static final long IS_WOVEN = 1L << (WAY_AT + 3);
        private static final long IS_BIG = 1L << (WAY_AT + 4);
        private static final long IS_HUGE = 1L << (WAY_AT + 5);
        /** What has more leaves than this, and more nodes than that, needs much room. */
        private static final int SMALL_LEAVES = 254;
        private static final int SMALL_NODES = 1000;
        /** What has more nodes is only read once they were given up, if it isn't too long for that. */
        private static final int HUGE_NODES = 60000;
        private static final long HUGE_KEY_MOST = 1L << 27;

        /** States; those that may take letters out have a bit more. */
        private static final int FREE = 0;
        private static final int GONE = 1;
        private static final int THERE = 2;
        private static final int DELETES = 4;

        /** Marks: whether it is held in slots, woven of, or in use just now. */
        private static final int IS_HELD = 1;
        private static final int IS_NEEDED = 2;
        private static final int IS_PINNED = 4;

        /** What is given up: nothing; what is only needed for others; half of all; all. */
        private static final int STAGES = 4;

        private final Trees trees;
        /** What is in no slot, nor needed for what is, is thrown away when room is scarce. */
        private final int[] slots = new int[SLOTS_MOST];
        private int slotsTaken;
        private final int[] nodes = new int[WORKS_MOST];
        private final long[] recipes = new long[WORKS_MOST];
        /** How long a text must be for it, and its key: that and how long the text is then, together; NONE: not known yet. */
        private final long[] from = new long[WORKS_MOST];
        private final long[] keys = new long[WORKS_MOST];
        private final int[] states = new int[WORKS_MOST];
        private final int[] marks = new int[WORKS_MOST];
        private final int[] usedAt = new int[WORKS_MOST];
        private final int[] trail = new int[WORKS_MOST];
        private int next = 1;
        private int clock;
        /** Whether there were too many, or no room at all. */
        private boolean hasFailed;

        Works(Trees store) {
            trees = store;
            states[EMPTY] = THERE;
        }

        /** So many slots: the first one. */
        int newSlots(int n) {
            int first = slotsTaken;
            slotsTaken += n;
            return first;
        }

        int held(int slot) {
            return slot >= 0 && slot < SLOTS_MOST ? slots[slot] : EMPTY;
        }

        void hold(int slot, int work) {
            if (slot >= 0 && slot < SLOTS_MOST) slots[slot] = work;
        }

        /** Lets go of what so many slots hold. */
        void letGo(int first, int n) {
            for (int i = 0; i < n; i++) hold(first + i, EMPTY);
        }

        /** So many slots hold the same as others. */
        void holdLike(int first, int other, int n) {
            for (int i = 0; i < n; i++) hold(first + i, held(other + i));
        }

        private static boolean isWork(int work) {
            return work > EMPTY && work < WORKS_MOST;
        }

        /** Whether there was no room for something since this was asked last. */
        boolean failed() {
            boolean hadNoRoom = hasFailed;
            hasFailed = false;
            return hadNoRoom;
        }

        int node(int work) {
            return isWork(work) ? nodeAt(nodes, work) : Trees.EMPTY;
        }

        /** NONE: not known yet. */
        long from(int work) {
            return isWork(work) ? from[work] : 0L;
        }

        /** NONE: not known yet. */
        long to(int work) {
            if (!isWork(work)) return 0L;
            return from[work] == NONE || keys[work] == NONE ? NONE : keys[work] - from[work];
        }

        boolean isThere(int work) {
            return work <= EMPTY || work >= WORKS_MOST || (states[work] & THERE) != 0;
        }

        /** Whether it isn't there, and is too big to be. */
        boolean isBig(int work) {
            return isWork(work) && (states[work] & GONE) != 0 && (recipes[work] & IS_BIG) != 0;
        }

        /** If not, it takes no letters out. */
        boolean mayDelete(int work) {
            return work > EMPTY && work < WORKS_MOST && (states[work] & DELETES) != 0;
        }

        /** Whether it is known to take no letters out and bring none: each stays at its place. */
        boolean isStraight(int work) {
            if (work <= EMPTY || work >= WORKS_MOST) return true;
            return from[work] != NONE && keys[work] == 2 * from[work] && (states[work] & DELETES) == 0;
        }

        /** In which way it was woven. */
        int way(int work) {
            return work > EMPTY && work < WORKS_MOST ? (int) (recipes[work] >> WAY_AT) & 3 : 0;
        }

        int one(int work) {
            return work > EMPTY && work < WORKS_MOST ? (int) (recipes[work] >> WORK_BITS) & WORK_MASK : EMPTY;
        }

        int two(int work) {
            return work > EMPTY && work < WORKS_MOST ? (int) recipes[work] & WORK_MASK : EMPTY;
        }

        void use(int work) {
            if (isWork(work)) usedAt[work] = clock++;
        }

        // ------------------------------------------------------------ made

        /** An edit that is to be woven, not there yet; EMPTY, if there are too many. */
        int begin(int way, int one, int two) {
            int work = spare();
            if (!isWork(work)) {
                hasFailed = true;
                return EMPTY;
            }
            boolean isOver = way == Loom.OVER_FIRST || way == Loom.OVER_SECOND;
            boolean deletes = mayDelete(one);
            if (way == Loom.BEHIND) deletes = deletes || mayDelete(two);
            if (way == Loom.TURN) deletes = deletes || from(one) == NONE || to(one) != from(one);
            long itsTo = way == Loom.TURN ? from(one) : to(two);
            if (isOver && itsTo != NONE) {
                // What both delete is known only when it was read.
                boolean isKnown = from(one) != NONE && to(one) != NONE && !(mayDelete(one) && mayDelete(two));
                itsTo = isKnown ? itsTo + to(one) - from(one) : NONE;
            }
            recipes[work] = IS_WOVEN | ((long) way << WAY_AT) | ((long) one << WORK_BITS) | two;
            states[work] = deletes ? GONE | DELETES : GONE;
            from[work] = way == Loom.BEHIND ? from(one) : way == Loom.TURN ? to(one) : to(two);
            keys[work] = from[work] == NONE || itsTo == NONE ? NONE : from[work] + itsTo;
            return work;
        }

        /** An edit that is a node, and can't be given up. */
        int known(int node) {
            if (node == Trees.EMPTY) return EMPTY;
            int work = spare();
            if (!isWork(work)) {
                hasFailed = true;
                return EMPTY;
            }
            put(work, node);
            recipes[work] = 0;
            return work;
        }

        /** It is there; if it doesn't need much room, it is never given up. */
        void put(int work, int node) {
            if (!isWork(work)) return;
            putNode(nodes, work, node);
            from[work] = trees.from(node);
            keys[work] = trees.from(node) + trees.to(node);
            states[work] = trees.hasDelete(node) ? THERE | DELETES : THERE;
            usedAt[work] = clock++;
            if (trees.leaves(node) <= SMALL_LEAVES || trees.hasFewNodes(node, SMALL_NODES)) recipes[work] = 0;
            else if (!trees.hasFewNodes(node, HUGE_NODES)) recipes[work] |= IS_HUGE;
        }

        /** It is too big to be a node. */
        void makeBig(int work) {
            if (isWork(work)) recipes[work] |= IS_BIG;
        }

        /** All of it was read. */
        void measured(int work, long key) {
            if (isWork(work)) keys[work] = key;
        }

        /** Finds out how long a text must be for it from what it is woven of, if that is known. */
        void measure(int work) {
            long found = 0;
            boolean isLess = false;
            int its = work;
            for (int k = 0; k < WORKS_MOST && from(its) == NONE; k++) {
                int way = way(its);
                its = way == Loom.OVER_FIRST || way == Loom.OVER_SECOND ? two(its) : one(its);
                if (way == Loom.BEHIND) continue;
                if (isWork(its) && keys[its] == NONE) return;
                long key = isWork(its) ? keys[its] : 0L;
                found += isLess ? -key : key;
                isLess = !isLess;
            }
            if (isWork(work) && from(its) != NONE) from[work] = isLess ? found - from(its) : found + from(its);
        }

        /** A number that is free. If there is none, what nobody holds goes, and then what others were woven of. */
        private int spare() {
            for (int stage = 0; stage < 3; stage++) {
                for (; next < WORKS_MOST; next++) {
                    if (states[next] == FREE) return next;
                }
                if (stage == 1) forgetRecipes();
                if (stage < 2) collect();
                if (stage < 2) sweep();
            }
            return EMPTY;
        }

        private void forgetRecipes() {
            for (int work = 1; work < WORKS_MOST; work++) {
                if ((states[work] & THERE) != 0) recipes[work] = 0;
            }
        }

        // ------------------------------------------------------------ given up

        /** Marks what is held and what is needed for that. */
        void collect() {
            Arrays.fill(marks, 0);
            for (int slot = 0; slot < SLOTS_MOST; slot++) note(slots[slot], IS_HELD);
            int top = 0;
            for (int work = 1; work < WORKS_MOST; work++) {
                if (marks[work] != 0 && top < trail.length) trail[top++] = work;
            }
            for (int step = 0; step < 2 * WORKS_MOST && top > 0; step++) {
                int work = trail[--top];
                if (recipes[work] == 0) continue;
                for (int k = 0; k < 2; k++) {
                    int operand = k == 0 ? one(work) : two(work);
                    if (isWork(operand) && marks[operand] == 0 && top < trail.length) trail[top++] = operand;
                    note(operand, IS_NEEDED);
                }
            }
        }

        private void note(int work, int mark) {
            if (work > EMPTY && work < WORKS_MOST) marks[work] |= mark;
        }

        /** What is in use must not be given up: what a hand holds and what is woven just now is made of. */
        void pin(int hand, int[] tasks, int open) {
            for (int i = 0; i < Loom.HAND; i++) note(held(hand + i), IS_PINNED);
            for (int i = 0; i < open && i < tasks.length; i++) {
                note(one(tasks[i]), IS_PINNED);
                note(two(tasks[i]), IS_PINNED);
            }
        }

        /** What is marked by nobody is no more. */
        void sweep() {
            for (int work = 1; work < WORKS_MOST; work++) {
                if (marks[work] != 0) continue;
                states[work] = FREE;
                recipes[work] = 0;
                putNode(nodes, work, Trees.EMPTY);
            }
            next = 1;
        }

        /** Gives up nodes that can be woven anew: at each stage more of them, those first that weren't used lately. */
        void giveUp(int stage) {
            int first = clock;
            int last = 0;
            for (int work = 1; work < WORKS_MOST; work++) {
                if (!canBeGivenUp(work, stage)) continue;
                first = Math.min(first, usedAt[work]);
                last = Math.max(last, usedAt[work]);
            }
            int most = stage == 2 ? first + (last - first) / 2 : last;
            for (int work = 1; work < WORKS_MOST; work++) {
                if (!canBeGivenUp(work, stage) || usedAt[work] > most) continue;
                if ((recipes[work] & IS_HUGE) != 0 && keys[work] <= HUGE_KEY_MOST) recipes[work] |= IS_BIG;
                states[work] = GONE | (states[work] & DELETES);
                putNode(nodes, work, Trees.EMPTY);
            }
        }

        private boolean canBeGivenUp(int work, int stage) {
            if (stage == 0 || (states[work] & THERE) == 0 || recipes[work] == 0) return false;
            return (marks[work] & IS_PINNED) == 0 && (stage > 1 || (marks[work] & IS_HELD) == 0);
        }
    }

    /**
     * What stands at one side of a seam, the nearest on top: nodes that are no runs, each so many times,
     * and due at the level at which they were one with what stood there before.
     */
    private static final class Edge {
        private static final int EDGE_MOST = 2 * Trees.DEPTH_MOST;

        private final Trees trees;
        private final boolean isLeft;
        private final int[] bases = new int[EDGE_MOST];
        private final long[] counts = new long[EDGE_MOST];
        private final int[] dues = new int[EDGE_MOST];
        private int top;
        /** The nearest, what is nearest in that, and so on. */
        private final int[] spine = new int[Trees.LEVELS_MOST + 1];
        private int depth;
        /** The bits of what was nearest when it was asked last. */
        private int mixed;

        Edge(Trees store, boolean isLeftOne) {
            trees = store;
            isLeft = isLeftOne;
        }

        /** One node alone stands there. */
        void start(int node) {
            top = 0;
            depth = 0;
            if (node != Trees.EMPTY) push(node, Trees.LEVELS_MOST);
        }

        void push(int node, int due) {
            put(trees.base(node), trees.times(node), due);
        }

        void put(int base, long n, int due) {
            if (n < 1) return;
            if (top < 0 || top >= EDGE_MOST) {
                trees.hasFailed = true;
                return;
            }
            bases[top] = base;
            counts[top] = n;
            dues[top] = due;
            top++;
            depth = 0;
        }

        int base() {
            return top > 0 && top <= EDGE_MOST ? bases[top - 1] : Trees.EMPTY;
        }

        long count() {
            return top > 0 && top <= EDGE_MOST ? counts[top - 1] : 0L;
        }

        boolean isDue(int level) {
            return top > 0 && top <= EDGE_MOST && dues[top - 1] <= level;
        }

        /** What is nearest, as it was at a level; while nothing else is done it is asked at higher and higher ones. */
        int next(int level) {
            if (top <= 0 || top > EDGE_MOST) return Trees.EMPTY;
            int asked = depth;
            if (depth == 0) spine[depth++] = bases[top - 1];
            for (int k = 0; k < Trees.LEVELS_MOST && depth < spine.length; k++) {
                int base = spine[depth - 1];
                if (trees.level(base) <= level) break;
                spine[depth++] = trees.base(isLeft ? trees.right(base) : trees.left(base));
            }
            for (; depth > 1 && trees.level(spine[depth - 2]) <= level; depth--) continue;
            if (depth != asked) mixed = Seam.mixed(spine[depth - 1]);
            return spine[depth - 1];
        }

        /** Takes the nearest apart, till it is one that was there at a level. */
        void sink(int level) {
            for (int k = 0; k < Trees.LEVELS_MOST && top > 0 && top <= EDGE_MOST; k++) {
                int base = bases[top - 1];
                int due = trees.level(base);
                if (due <= level) return;
                if (counts[top - 1] > 1) {
                    counts[top - 1]--;
                    dues[top - 1] = due;
                } else {
                    top--;
                }
                int far = isLeft ? trees.left(base) : trees.right(base);
                int near = isLeft ? trees.right(base) : trees.left(base);
                put(trees.base(far), trees.times(far), due - 1);
                put(trees.base(near), trees.times(near), due - 1);
            }
        }

        /** So many of the nearest go. */
        void drop(long n) {
            if (top <= 0 || top > EDGE_MOST) return;
            counts[top - 1] -= n;
            if (counts[top - 1] < 1) top--;
            depth = 0;
        }
    }

    /**
     * Joins edits and parts them. What an edit holds tells alone how it is made of nodes: its acts are
     * looked at level by level; at each one runs of the same become one, then of two neighbours whose
     * bits are 0 and 1 a pair. What becomes of a node depends on its neighbours alone, so where edits
     * are joined or parted, only what is next to the seam is made anew.
     */
    private static final class Seam {
        private static final int MIDDLE_MOST = 1 << 12;
        private static final int PULLS_MOST = 64;
        private static final int MIX = 0x7FEB352D;
        private static final int OTHER_MIX = 0x846CA68B;

        private final Trees trees;
        private final Edge left;
        private final Edge right;
        private final Edge bare;
        private final int[] bases = new int[MIDDLE_MOST];
        private final long[] counts = new long[MIDDLE_MOST];
        private final int[] mixes = new int[MIDDLE_MOST];
        private int start = MIDDLE_MOST / 2;
        private int size;

        Seam(Trees store) {
            trees = store;
            left = new Edge(store, true);
            right = new Edge(store, false);
            bare = new Edge(store, true);
        }

        // ------------------------------------------------------------ one behind the other

        /** Both, one behind the other, kept plain: letters behind what is deleted go ahead of it. */
        int join(int one, int two) {
            if (one == Trees.EMPTY) return two;
            if (two == Trees.EMPTY) return one;
            if (trees.endsWithDelete(one) && trees.beginsWithLetter(two)) {
                partLast(one);
                int beginning = settle(left, bare);
                int deleted = settle(bare, right);
                partLetters(two);
                int letters = settle(left, bare);
                int end = settle(bare, right);
                place(deleted, end);
                int behind = settle(left, right);
                place(beginning, letters);
                int ahead = settle(left, right);
                place(ahead, behind);
            } else {
                place(one, two);
            }
            return settle(left, right);
        }

        /** Two are to be joined as they are. */
        void place(int one, int two) {
            left.start(one);
            right.start(two);
        }

        /** What the two sides are together, and what stands in the middle already. */
        int settle(Edge one, Edge two) {
            for (int level = 0; level < Trees.LEVELS_MOST && size + one.top + two.top > 1; level++) {
                boolean isStill = false;
                for (int k = 0; k < PULLS_MOST && !isStill; k++) {
                    int ahead = one.next(level);
                    int behind = two.next(level);
                    int first = size > 0 ? bases[start] : behind;
                    int last = size > 0 ? bases[start + size - 1] : ahead;
                    int firstMixed = size > 0 ? mixes[start] : two.mixed;
                    int lastMixed = size > 0 ? mixes[start + size - 1] : one.mixed;
                    boolean isLeft = ahead != Trees.EMPTY && (one.isDue(level) || ahead == first
                        || first != Trees.EMPTY && arePair(one.mixed, firstMixed, level));
                    boolean isRight = behind != Trees.EMPTY && (two.isDue(level) || behind == last
                        || last != Trees.EMPTY && arePair(lastMixed, two.mixed, level));
                    if (isLeft) putAhead(one, level);
                    else if (isRight) putBehind(two, level);
                    else isStill = true;
                }
                if (!isStill) trees.hasFailed = true;
                if (size < 2) continue;
                int end = start + size;
                size = 0;
                for (int i = start; i < end; i++) {
                    int base = bases[i];
                    long n = counts[i];
                    int mixed = mixes[i];
                    if (i + 1 < end && arePair(mixed, mixes[i + 1], level)) {
                        int ahead = trees.run(base, n);
                        i++;
                        base = trees.pair(ahead, trees.run(bases[i], counts[i]), level + 1);
                        n = 1;
                        mixed = mixed(base);
                    }
                    put(base, n, mixed);
                }
            }
            if (size + one.top + two.top > 1) trees.hasFailed = true;
            Edge all = one.top > 0 ? one : two;
            int base = size > 0 ? bases[start] : all.base();
            long n = size > 0 ? counts[start] : all.count();
            start = MIDDLE_MOST / 2;
            size = 0;
            return trees.run(base, n);
        }

        /** What is nearest on the left comes into the middle. */
        private void putAhead(Edge edge, int level) {
            edge.sink(level);
            if (size > 0 && bases[start] == edge.base()) {
                counts[start] += edge.count();
            } else if (start > 0) {
                start--;
                size++;
                bases[start] = edge.base();
                counts[start] = edge.count();
                mixes[start] = mixed(edge.base());
            } else {
                trees.hasFailed = true;
            }
            edge.drop(edge.count());
        }

        private void putBehind(Edge edge, int level) {
            edge.sink(level);
            put(edge.base(), edge.count(), mixed(edge.base()));
            edge.drop(edge.count());
        }

        /** So many of one come into the middle, behind what stands there. */
        void put(int base, long n, int mixed) {
            int end = start + size;
            if (size > 0 && bases[end - 1] == base) {
                counts[end - 1] += n;
            } else if (end < MIDDLE_MOST) {
                size++;
                bases[end] = base;
                counts[end] = n;
                mixes[end] = mixed;
            } else {
                trees.hasFailed = true;
            }
        }

        /**
         * Bits of a node: two nodes have 32 each that aren't all the same. They are asked in turn, each as
         * it is and then the other way round, so that no two neighbours stay apart for ever.
         */
        static int mixed(int node) {
            int mixed = (node ^ (node >>> 16)) * MIX;
            mixed = (mixed ^ (mixed >>> 15)) * OTHER_MIX;
            return mixed ^ (mixed >>> 16);
        }

        /** Whether two neighbours become a pair at a level: the bit of the one is 0, that of the other 1. */
        private static boolean arePair(int mixed, int otherMixed, int level) {
            int turn = (level >> 1) & 31;
            int bit = ((mixed >>> turn) ^ level) & 1;
            return bit == 0 && (((otherMixed >>> turn) ^ level) & 1) == 1;
        }

        // ------------------------------------------------------------ parted

        /**
         * Parts an edit at a place of the old text or the new one: what is ahead of it goes to the left,
         * all else, with what is inserted (or deleted) at the place, to the right.
         */
        void partAt(int axis, int root, long place) {
            clear();
            int node = root;
            long inside = place;
            int due = Trees.LEVELS_MOST;
            for (int k = 0; k < Trees.DEPTH_MOST && node != Trees.EMPTY; k++) {
                long all = trees.size(axis, node);
                boolean endsWithMore = axis == Trees.FROM ? trees.endsWithLetter(node) : trees.endsWithDelete(node);
                if (inside <= 0) {
                    right.push(node, due);
                    return;
                }
                if (inside > all || inside == all && !endsWithMore) {
                    left.push(node, due);
                    return;
                }
                due = trees.level(node);
                if (!trees.isPair(node)) {
                    int base = trees.left(node);
                    long each = trees.size(axis, base);
                    long whole = each > 0 ? (inside - 1) / each : 0;
                    left.put(base, whole, due);
                    right.put(base, trees.times(node) - whole - 1, due);
                    inside -= whole * each;
                    node = base;
                } else if (inside <= trees.size(axis, trees.left(node))) {
                    due--;
                    right.push(trees.right(node), due);
                    node = trees.left(node);
                } else {
                    due--;
                    left.push(trees.left(node), due);
                    inside -= trees.size(axis, trees.left(node));
                    node = trees.right(node);
                }
            }
        }

        /** Parts an edit behind the letters that it begins with. */
        void partLetters(int root) {
            clear();
            int node = root;
            int due = Trees.LEVELS_MOST;
            for (int k = 0; k < Trees.DEPTH_MOST && node != Trees.EMPTY; k++) {
                if (trees.from(node) == 0) {
                    left.push(node, due);
                    return;
                }
                if (!trees.beginsWithLetter(node)) {
                    right.push(node, due);
                    return;
                }
                int first = trees.left(node);
                due = trees.level(node);
                if (!trees.isPair(node)) {
                    right.put(first, trees.times(node) - 1, due);
                    node = first;
                } else if (trees.from(first) == 0) {
                    due--;
                    left.push(first, due);
                    node = trees.right(node);
                } else {
                    due--;
                    right.push(trees.right(node), due);
                    node = first;
                }
            }
        }

        /** Parts an edit ahead of its last leaf. */
        private void partLast(int root) {
            clear();
            int node = root;
            int due = Trees.LEVELS_MOST;
            for (int k = 0; k < Trees.DEPTH_MOST && !trees.isLeaf(node); k++) {
                due = trees.level(node);
                if (!trees.isPair(node)) {
                    left.put(trees.left(node), trees.times(node) - 1, due);
                    node = trees.left(node);
                } else {
                    due--;
                    left.push(trees.left(node), due);
                    node = trees.right(node);
                }
            }
            right.push(node, due);
        }

        /** Parts an edit where its two meet, a run in the middle. */
        void partInTwo(int node) {
            clear();
            if (trees.isPair(node)) {
                left.push(trees.left(node), 0);
                right.push(trees.right(node), 0);
                return;
            }
            long n = trees.times(node);
            left.put(trees.base(node), n / 2, 0);
            right.put(trees.base(node), n - n / 2, 0);
        }

        private void clear() {
            left.top = 0;
            right.top = 0;
        }
    }

    /** Tells what is in edits and texts: from their nodes, or run by run of those that are too big to be nodes. */
    private static final class Teller {
        private static final int TURNED = 0;
        private static final int INSERTED = 1;
        private static final int PARTS = 2;
        private static final int SIGNS = 3;
        private static final int LETTERS_WITH = 4;
        private static final int SIGNS_MOST = 32;
        private static final int STEPS_MOST = 1 << 30;

        /** Notes stand in buckets told by a node's number; a note has a tag, which tells the rest of it, and what was found. */
        private static final int BUCKET = 4;
        private static final int BUCKET_BITS_LEAST = 9;
        private static final int BUCKET_BITS_MOST = 17;
        private static final int TAG_BITS = 5;
        private static final int TAG_MASK = (1 << TAG_BITS) - 1;
        private static final int NOTES_AT = Loom.MEMORY;
        private static final int NOTES_END = NOTES_AT + (BUCKET << BUCKET_BITS_MOST);
        private static final long RUNS_MOST = 1L << 60;

        private final Trees trees;
        private final Works works;
        private final Reader reader;
        private final Edge one;
        private final Edge other;
        private final int[] trail = new int[2 * Trees.DEPTH_MOST];
        private final long[] sums = new long[2 * Trees.DEPTH_MOST];
        private int bucketBits = BUCKET_BITS_LEAST;
        /** What was summed last, and after how much tidying. */
        private int sought = NONE;
        private int noted;
        private final char[] signs = new char[SIGNS_MOST];
        private int signCount;
        /** What was sought is in these letters (of a part, the first ones) with which an act is done, at this place in them. */
        private int act;
        private long count;
        private long inLeaf;
        /** How many letters the part that was sought goes over or inserts. */
        private long partSize;
        /** The place in the new text at which that leaf begins, or to which two are alike. */
        private long placed;
        /** How many parts are passed by what two have alike, and the last node of that. */
        private long passed;
        private int last;

        Teller(Reader bigReader) {
            reader = bigReader;
            works = bigReader.works;
            trees = bigReader.works.trees;
            one = new Edge(trees, false);
            other = new Edge(trees, false);
        }

        // ------------------------------------------------------------ sums

        /** How many letters an edit turns or inserts, how many parts it has, or how many signs when it is spelled. */
        long sumOf(int what, int edit) {
            boolean isNarrow = bucketBits < BUCKET_BITS_MOST && BUCKET << bucketBits < trees.used;
            if (what != sought || isNarrow || noted != trees.tidied) {
                sought = what;
                noted = trees.tidied;
                for (; bucketBits < BUCKET_BITS_MOST && BUCKET << bucketBits < trees.used; bucketBits++) continue;
                Arrays.fill(trees.pool, NOTES_AT, NOTES_AT + (BUCKET << bucketBits), 0L);
            }
            if (works.isThere(edit)) return sum(works.node(edit));
            long found = 0;
            reader.open(edit, Works.EMPTY, 0);
            boolean isLetter = false;
            for (long k = 0; k < RUNS_MOST && reader.next(); k++) {
                long its = ofAct(reader.act, reader.count);
                found = sought >= LETTERS_WITH ? found | its : found + its;
                // What goes on is a part (and has a sign) already.
                if (isLetter && reader.act < DELETE_ACT && sought >= PARTS && sought < LETTERS_WITH) found--;
                isLetter = reader.act < DELETE_ACT;
            }
            reader.close();
            return found;
        }

        /** Letters (bits) that stand in a text with a mark; bit 4: with none at all. */
        int lettersMarked(int text, int bit) {
            return (int) sumOf(LETTERS_WITH + bit, text);
        }

        /** Of each node that is told by those below it, and noted, so that it needn't be found out again. */
        private long sum(int root) {
            long found = atHand(root);
            int top = 0;
            if (found == NONE) open(top++, root);
            for (int step = 0; step < STEPS_MOST && top > 0 && top < trail.length; step++) {
                int node = trail[top - 1];
                boolean isFirst = sums[top - 1] == NONE;
                if (found == NONE) {
                    int below = isFirst ? trees.left(node) : trees.right(node);
                    found = atHand(below);
                    if (found == NONE) open(top++, below);
                } else if (isFirst && trees.isPair(node)) {
                    sums[top - 1] = found;
                    found = NONE;
                } else {
                    found = isFirst ? sumOfRun(node, found) : sumOfPair(node, sums[top - 1], found);
                    note(node, found);
                    top--;
                }
            }
            return found;
        }

        private void open(int i, int node) {
            if (i < 0 || i >= trail.length) return;
            trail[i] = node;
            sums[i] = NONE;
        }

        /** What needn't be found out; else NONE. */
        private long atHand(int node) {
            if (node == Trees.EMPTY) return 0L;
            if (trees.isLeaf(node)) return ofAct(trees.act(node), trees.count(node));
            long[] notes = trees.pool;
            int tag = (node >> bucketBits) + 1;
            int start = NOTES_AT + BUCKET * (node & ((1 << bucketBits) - 1));
            for (int i = start; i < start + BUCKET && i < NOTES_END; i++) {
                if ((notes[i] & TAG_MASK) == tag) return notes[i] >>> TAG_BITS;
            }
            return NONE;
        }

        /** The latest is noted first in its bucket; the one that was noted before all others goes. */
        private void note(int node, long found) {
            long[] notes = trees.pool;
            int start = NOTES_AT + BUCKET * (node & ((1 << bucketBits) - 1));
            if (start < NOTES_AT || start + BUCKET > NOTES_END) return;
            for (int i = start + BUCKET - 1; i > start; i--) notes[i] = notes[i - 1];
            notes[start] = (found << TAG_BITS) | ((node >> bucketBits) + 1);
        }

        /** What goes on from one node to the next one is a part (and has a sign) in the one alone. */
        private long sumOfPair(int node, long first, long second) {
            if (sought >= LETTERS_WITH) return first | second;
            return first + second - (sought < PARTS ? 0 : trees.seam(trees.left(node), trees.right(node)));
        }

        private long sumOfRun(int node, long each) {
            if (sought >= LETTERS_WITH) return each;
            int shared = sought < PARTS ? 0 : trees.seam(node, node);
            return trees.times(node) * (each - shared) + shared;
        }

        /** Of so many letters with which an act is done. */
        private long ofAct(int its, long n) {
            int kind = kindOf(its);
            switch (sought) {
                case TURNED: return kind == MARK ? n : 0;
                case INSERTED: return kind == INSERT ? n : 0;
                case PARTS: return 1;
                case SIGNS: return 1 + (kind == INSERT ? n : digits(n) + (kind == MARK ? signsOfMark(its) : 0));
                default: return lettersWith(sought - LETTERS_WITH, its);
            }
        }

        private static int digits(long n) {
            int found = 1;
            for (long left = n / 10; left > 0; left /= 10) found++;
            return found;
        }

        /** A dot and a number; if there are ON and OFF, so twice. */
        private static int signsOfMark(int act) {
            int on = (act >> ON_AT) & ALL_BITS;
            int off = act & ALL_BITS;
            return (on > 9 ? 3 : on > 0 ? 2 : 0) + (off > 9 ? 3 : off > 0 ? 2 : 0);
        }

        private static long lettersWith(int bit, int act) {
            int has = act >> MARKS_AT;
            boolean fits = bit == BITS ? has == 0 : ((has >> bit) & 1) == 1;
            return fits ? 1L << (act & LETTER_MASK) : 0L;
        }

        private static int kindOf(int act) {
            if (act < DELETE_ACT) return INSERT;
            if (act == DELETE_ACT) return DELETE;
            return act == KEEP_ACT ? KEEP : MARK;
        }

        // ------------------------------------------------------------ parts

        /** Seeks the i-th part of an edit: whether there is one. */
        boolean seekPart(int edit, long i) {
            long parts = i < 0 ? 0 : works.isThere(edit) ? sumOf(PARTS, edit) : RUNS_MOST;
            if (i < 0 || i >= parts) return false;
            if (!works.isThere(edit)) return readPart(edit, i);
            int node = works.node(edit);
            seek(node, i);
            partSize = count;
            if (kind() != INSERT) return true;
            int found = act;
            long begun = placed;
            if (i + 1 < parts) seek(node, i + 1);
            partSize = (i + 1 < parts ? placed : trees.to(node)) - begun;
            act = found;
            placed = begun;
            return true;
        }

        /** Seeks the i-th part of a node whose parts were summed last, or the i-th sign if its signs were. */
        private void seek(int root, long i) {
            int node = root;
            long index = i;
            placed = 0;
            for (int depth = 0; depth < Trees.DEPTH_MOST && !trees.isLeaf(node); depth++) {
                int first = trees.left(node);
                long n = sum(first);
                if (!trees.isPair(node)) {
                    int shared = trees.seam(first, first);
                    long ahead = index < n || n <= shared ? 0 : (index - shared) / (n - shared);
                    index -= ahead * (n - shared);
                    placed += ahead * trees.to(first);
                    node = first;
                } else if (index < n) {
                    node = first;
                } else {
                    index -= n - trees.seam(first, trees.right(node));
                    placed += trees.to(first);
                    node = trees.right(node);
                }
            }
            act = trees.act(node);
            count = trees.count(node);
            inLeaf = index;
        }

        /** Seeks the i-th part of what is too big to be a node: whether there is one. */
        private boolean readPart(int edit, long i) {
            long part = NONE;
            boolean isLetter = false;
            reader.open(edit, Works.EMPTY, 0);
            for (long k = 0; k < RUNS_MOST && part <= i && reader.next(); k++) {
                boolean goesOn = isLetter && reader.act < DELETE_ACT;
                isLetter = reader.act < DELETE_ACT;
                if (!goesOn) part++;
                if (part == i && goesOn) partSize += reader.count;
                if (part != i || goesOn) continue;
                act = reader.act;
                partSize = reader.count;
                placed = reader.to;
            }
            reader.close();
            return part >= i;
        }

        int kind() {
            return kindOf(act);
        }

        int on() {
            return act > KEEP_ACT ? (act >> ON_AT) & ALL_BITS : 0;
        }

        int off() {
            return act > KEEP_ACT ? act & ALL_BITS : 0;
        }

        int firstLetter() {
            return act & LETTER_MASK;
        }

        /** The letter (with its marks) at a place of the new text, if it is inserted. */
        int letterAt(int edit, long place) {
            if (works.isThere(edit)) return trees.actAt(works.node(edit), place);
            if (works.from(edit) == 0) return Math.max(reader.actOf(edit, place), 0);
            reader.open(edit, Works.EMPTY, 0);
            int found = NONE;
            for (long k = 0; k < RUNS_MOST && found == NONE && reader.next(); k++) {
                if (reader.act != DELETE_ACT && reader.to + reader.count > place) found = reader.act;
            }
            reader.close();
            return Math.max(found, 0);
        }

        // ------------------------------------------------------------ spelled

        /** The i-th sign of an edit spelled; NONE: none such. */
        int signAt(int edit, int i) {
            long n = i < 0 ? 0 : works.isThere(edit) ? sumOf(SIGNS, edit) : RUNS_MOST;
            if (i < 0 || i >= n) return NONE;
            if (works.isThere(edit)) seek(works.node(edit), i);
            else if (!readSign(edit, i)) return NONE;
            if (kind() == INSERT) return inLeaf == 0 ? '+' : 'a' + firstLetter();
            spell();
            return inLeaf >= 0 && inLeaf < signCount && inLeaf < signs.length ? signs[(int) inLeaf] : NONE;
        }

        /** Seeks the i-th sign of what is too big to be a node: whether there is one. */
        private boolean readSign(int edit, int i) {
            long ahead = 0;
            boolean isLetter = false;
            boolean isFound = false;
            sought = SIGNS;
            reader.open(edit, Works.EMPTY, 0);
            for (long k = 0; k < RUNS_MOST && !isFound && reader.next(); k++) {
                // Letters that go on have no sign ahead of them.
                if (isLetter && reader.act < DELETE_ACT) ahead--;
                isLetter = reader.act < DELETE_ACT;
                act = reader.act;
                count = reader.count;
                inLeaf = i - ahead;
                ahead += ofAct(act, count);
                isFound = i < ahead;
            }
            reader.close();
            noted = NONE;
            return isFound;
        }

        /** All that is spelled of what was sought, but for an insert. */
        private void spell() {
            signCount = 0;
            if (act <= KEEP_ACT) {
                spellSign(act == KEEP_ACT ? '=' : '-');
                spellNumber(count);
                return;
            }
            int on = (act >> ON_AT) & ALL_BITS;
            int off = act & ALL_BITS;
            spellSign(on != 0 ? '^' : '_');
            spellNumber(count);
            spellSign('.');
            spellNumber(on != 0 ? on : off);
            if (on == 0 || off == 0) return;
            spellSign('_');
            spellNumber(off);
        }

        private void spellSign(char sign) {
            if (signCount >= 0 && signCount < signs.length) signs[signCount++] = sign;
        }

        private void spellNumber(long n) {
            boolean isBegun = false;
            for (long unit = 1000000000000000000L; unit > 0; unit /= 10) {
                int digit = (int) ((n / unit) % 10);
                isBegun = isBegun || digit != 0;
                if (isBegun) spellSign((char) ('0' + digit));
            }
        }

        // ------------------------------------------------------------ where two differ

        /** The first part at which two edits differ; NONE. */
        long firstUnlikePart(int a, int b) {
            if (a == b) return NONE;
            if (!works.isThere(a) || !works.isThere(b)) return readAlike(a, b) ? NONE : passed;
            if (works.node(a) == works.node(b)) return NONE;
            sumOf(PARTS, a);
            passAlike(works.node(a), works.node(b), true);
            int done = trees.act(last);
            int his = trees.act(one.base());
            int its = trees.act(other.base());
            // A part that is alike so far differs, if it goes on in one of them alone, or otherwise.
            boolean goesOn = done != NONE && (done == his || done == its);
            goesOn = goesOn || trees.seam(last, one.base()) + trees.seam(last, other.base()) > 0;
            return passed - (goesOn ? 1 : 0);
        }

        /** The first place at which two texts differ, or one ends; NONE. */
        long firstUnlikePlace(int a, int b) {
            if (a == b) return NONE;
            if (!works.isThere(a) || !works.isThere(b)) return readAlike(a, b) ? NONE : placed;
            if (works.node(a) == works.node(b)) return NONE;
            passAlike(works.node(a), works.node(b), false);
            return placed;
        }

        /** Reads two from their beginning on till they differ, and notes at which part and place: whether they don't. */
        boolean readAlike(int a, int b) {
            placed = 0;
            passed = 0;
            int done = NONE;
            boolean areAlike = true;
            reader.open(a, b, 0);
            for (long k = 0; k < RUNS_MOST && areAlike; k++) {
                // To weave the one on, a window of the other may be gone.
                for (int c = 0; c < 4; c++) reader.isAtHand(c % 2 == 0 ? Reader.FIRST : Reader.SECOND);
                int his = reader.actAt(Reader.FIRST);
                int its = reader.actAt(Reader.SECOND);
                boolean isLetter = done >= 0 && done < DELETE_ACT;
                boolean hisGoesOn = done != NONE && (his == done || isLetter && his >= 0 && his < DELETE_ACT);
                boolean itsGoesOn = done != NONE && (its == done || isLetter && its >= 0 && its < DELETE_ACT);
                areAlike = his == its;
                if (areAlike && his == NONE) break;
                if (areAlike ? !hisGoesOn : hisGoesOn || itsGoesOn) passed += areAlike ? 1 : -1;
                if (!areAlike) continue;
                done = his;
                long n = reader.passBoth();
                if (his != DELETE_ACT) placed += n;
            }
            reader.close();
            return areAlike;
        }

        /** Passes all that two have alike from their beginning on; what is next then are acts, or an end. */
        private void passAlike(int a, int b, boolean areParts) {
            placed = 0;
            passed = 0;
            last = Trees.EMPTY;
            one.start(a);
            other.start(b);
            for (int step = 0; step < 4 * Trees.NODES_MOST && one.top > 0 && other.top > 0; step++) {
                int level = trees.level(one.base());
                int otherLevel = trees.level(other.base());
                if (one.base() == other.base()) {
                    passBoth(Math.min(one.count(), other.count()), areParts);
                } else if (level == 0 && otherLevel == 0) {
                    return;
                } else {
                    int lower = Math.min(level, otherLevel);
                    if (level == otherLevel) lower--;
                    one.sink(lower);
                    other.sink(lower);
                }
            }
        }

        private void passBoth(long n, boolean areParts) {
            int base = one.base();
            if (areParts) {
                boolean isAct = trees.isLeaf(base);
                int shared = trees.seam(base, base);
                passed += isAct ? 1 : n * (sum(base) - shared) + shared;
                passed -= trees.seam(last, base);
            }
            placed += n * trees.to(base);
            last = base;
            one.drop(n);
            other.drop(n);
        }
    }

    /**
     * Weaves two edits into one: both are parted at the same place, again and again, till what comes
     * of two pieces is told at once. What came of two pieces is remembered, so of what is alike in
     * them it is woven once alone.
     */
    private static final class Loom {
        /** The second one behind the first. */
        private static final int BEHIND = 0;
        /** The first one over the second, their letters at one place in this order or the other. */
        private static final int OVER_SECOND = 1;
        private static final int OVER_FIRST = 2;
        /** The first one turned for a text, the second. */
        private static final int TURN = 3;
        private static final int WAYS = 4;
        /** The first one as it is. */
        private static final int FETCH = 4;

        /** int[] of the hand: what is held while something is done. */
        private static final int DRAFT = 0;
        private static final int COMING = 1;
        private static final int CAME = 2;
        private static final int PASSED = 3;
        private static final int PINNED = 4;
        private static final int WANTED = 5;
        private static final int HAND = 6;

        /** int[] of each frame: what is to be woven, what is left of it, what came of its beginning. */
        private static final int ONE = 0;
        private static final int TWO = 1;
        private static final int REST_ONE = 2;
        private static final int REST_TWO = 3;
        private static final int START = 4;
        private static final int FRAME = 5;
        private static final int FRAMES_MOST = 1 << 12;
        private static final int FEW = 8;
        private static final int FLAT_MOST = Trees.LEAVES_MOST - 1;

        private static final int STEPS_MOST = 1 << 28;
        private static final int FETCHED_MOST = 1 << 12;
        private static final int GATHERED = 1 << 10;
        /**
         * What came of two is remembered in one number: the answer, and above it of the key, whose bits are
         * mixed so that no two become one, what the number's place doesn't tell of it already.
         */
        private static final int PLACE_BITS = 17;
        private static final int PLACE_MASK = (1 << PLACE_BITS) - 1;
        private static final int KEY_BITS = 2 * Trees.ID_BITS + 2;
        private static final long KEY_MASK = (1L << KEY_BITS) - 1;
        private static final long KEY_SPREAD = 0x9E3779B97F4A7C15L;
        private static final long IS_REMEMBERED = 1L << (KEY_BITS - PLACE_BITS);
        private static final int MEMORY = 2 << PLACE_BITS;

        private final Works works;
        private final Trees trees;
        private final Reader reader;
        private final Seam seam;
        private final int hand;
        private final int[] frames = new int[FRAME * FRAMES_MOST];
        private final Edge first;
        private final Edge second;
        private final int[] path = new int[FLAT_MOST + 1];
        /** What is to be woven, each for the one ahead of it. */
        private final int[] tasks = new int[Works.WORKS_MOST];
        private int open;
        private int top;
        /** Whether something had to be given up, and how much was woven only to read what is too big. */
        private boolean isTight;
        private int fetched;

        Loom(Works store, Reader bigReader) {
            works = store;
            reader = bigReader;
            trees = store.trees;
            seam = new Seam(trees);
            first = new Edge(trees, false);
            second = new Edge(trees, false);
            hand = store.newSlots(HAND);
        }

        /** Drafts an edit: so many letters kept, an act done with some, so many kept. */
        void draft(long ahead, int act, long n, long behind) {
            works.hold(hand + DRAFT, Works.EMPTY);
            tidy(Trees.EMPTY);
            trees.failed();
            int start = seam.join(trees.leaf(KEEP_ACT, ahead), trees.leaf(act, n));
            works.hold(hand + DRAFT, works.known(seam.join(start, trees.leaf(KEEP_ACT, behind))));
            if (trees.failed()) works.hasFailed = true;
        }

        /**
         * Weaves two edits, or fetches the first one as it is: what comes of that is there then, or is too
         * big to be; then all that is needed to read it is there, if there is room.
         */
        int weave(int way, int one, int two) {
            int wanted = way == FETCH ? one : begin(way, one, two);
            works.hold(hand + WANTED, wanted);
            works.use(wanted);
            open = 0;
            top = 0;
            isTight = false;
            fetched = 0;
            if (!works.isThere(wanted)) tasks[open++] = wanted;
            int node = NONE;
            for (int step = 0; step < STEPS_MOST && open > 0; step++) {
                tidy(node);
                int task = tasks[open - 1];
                int its = works.way(task);
                int frame = (top - 1) * FRAME;
                if (trees.failed()) {
                    works.makeBig(task);
                    node = NONE;
                    top = 0;
                    open--;
                } else if (top == 0 && node == NONE) {
                    if (!beginTask(task)) continue;
                    int runs = reader.few(task);
                    if (runs == NONE) works.makeBig(task);
                    else node = gather(runs);
                } else if (top == 0) {
                    works.put(task, node);
                    node = NONE;
                    open--;
                } else if (node == NONE) {
                    node = atOnce(its, nodeAt(frames, frame + ONE), nodeAt(frames, frame + TWO));
                    if (node == NONE) node = remembered(its, frame);
                    if (node == NONE) {
                        node = leafByLeaf(its, nodeAt(frames, frame + ONE), nodeAt(frames, frame + TWO));
                        if (node != NONE) remember(its, frame, node);
                    }
                    if (node == NONE) divide(its, frame);
                    else top--;
                } else if (nodeAt(frames, frame + START) == NONE) {
                    putNode(frames, frame + START, node);
                    node = NONE;
                    push(nodeAt(frames, frame + REST_ONE), nodeAt(frames, frame + REST_TWO));
                } else {
                    node = seam.join(nodeAt(frames, frame + START), node);
                    remember(its, frame, node);
                    top--;
                }
            }
            for (; open > 0; open--) works.makeBig(tasks[open - 1]);
            top = 0;
            return wanted;
        }

        /** An edit that is to be woven; what isn't changed by it is the same edit. */
        private int begin(int way, int one, int two) {
            boolean isBig = works.isBig(one) || works.isBig(two);
            if (isBig && way == OVER_SECOND && works.isStraight(two)) return one;
            int last = works.two(one);
            boolean isShort = isBig && way == BEHIND && works.way(one) == BEHIND && !works.isBig(two);
            isShort = isShort && works.isThere(last) && trees.leaves(works.node(last)) <= Works.SMALL_LEAVES;
            if (!isShort || !works.isThere(two) || trees.leaves(works.node(two)) > Works.SMALL_LEAVES) {
                return works.begin(way, one, two);
            }
            // Little by little done with what is big is done at once, so that it is soon read.
            works.hold(hand + WANTED, works.begin(BEHIND, last, two));
            return works.begin(BEHIND, works.one(one), works.held(hand + WANTED));
        }

        /** Begins with what a task needs and isn't there, or else with itself. Whether it is to be read, if it has few runs. */
        private boolean beginTask(int task) {
            int one = works.one(task);
            int two = works.two(task);
            boolean isRead = works.isBig(task) || works.isBig(one) || works.isBig(two);
            int missing = NONE;
            if (!isRead && !works.isThere(one)) missing = one;
            else if (!isRead && !works.isThere(two)) missing = two;
            else if (isRead && !isTight && fetched < FETCHED_MOST) missing = reader.missing(task);
            if (isRead && missing != NONE) fetched++;
            if (missing != NONE && open < tasks.length) {
                tasks[open++] = missing;
            } else if (missing != NONE || works.isBig(task)) {
                works.makeBig(task);
                open--;
            } else if (!isRead) {
                works.use(one);
                works.use(two);
                push(works.node(one), works.node(two));
            } else {
                return true;
            }
            return false;
        }

        /** The node of the runs that were read last. */
        private int gather(int runs) {
            int node = Trees.EMPTY;
            for (int i = 0; i < runs; i++) {
                int act = reader.fewAct(i);
                seam.put(act + 1, reader.fewLetters(i), Seam.mixed(act + 1));
                if (i % GATHERED != GATHERED - 1 && i + 1 < runs) continue;
                int some = seam.settle(seam.bare, seam.bare);
                seam.place(node, some);
                node = seam.settle(seam.left, seam.right);
                tidy(node);
            }
            return node;
        }

        private void push(int one, int two) {
            if (top >= FRAMES_MOST) {
                trees.hasFailed = true;
                return;
            }
            int frame = top * FRAME;
            putNode(frames, frame + ONE, one);
            putNode(frames, frame + TWO, two);
            putNode(frames, frame + START, NONE);
            top++;
        }

        /** Parts both where the two halves of one of them meet; goes on with what is ahead. */
        private void divide(int way, int frame) {
            int one = nodeAt(frames, frame + ONE);
            int two = nodeAt(frames, frame + TWO);
            int axis = way == BEHIND ? Trees.TO : Trees.FROM;
            int otherAxis = way == TURN ? Trees.TO : Trees.FROM;
            boolean isFirst = leads(one, two);
            int lead = isFirst ? one : two;
            int leadAxis = isFirst ? axis : otherAxis;
            long half = trees.isPair(lead) ? 1 : trees.times(lead) / 2;
            long place = half * trees.size(leadAxis, trees.left(lead));
            boolean isClean = leadAxis == Trees.TO || !trees.endsWithLetter(trees.left(lead));
            boolean hasLetters = axis == Trees.FROM && trees.beginsWithLetter(one);
            // At one place the letters of both have their own order, so they go ahead together.
            hasLetters = hasLetters || otherAxis == Trees.FROM && trees.beginsWithLetter(two);
            if (hasLetters && axis == Trees.FROM) seam.partLetters(one);
            else if (hasLetters) seam.partAt(axis, one, 0);
            else if (isFirst && isClean) seam.partInTwo(one);
            else seam.partAt(axis, one, place);
            int start = seam.settle(seam.left, seam.bare);
            putNode(frames, frame + REST_ONE, seam.settle(seam.bare, seam.right));
            if (hasLetters && otherAxis == Trees.FROM) seam.partLetters(two);
            else if (hasLetters) seam.partAt(otherAxis, two, 0);
            else if (!isFirst && isClean) seam.partInTwo(two);
            else seam.partAt(otherAxis, two, place);
            int otherStart = seam.settle(seam.left, seam.bare);
            putNode(frames, frame + REST_TWO, seam.settle(seam.bare, seam.right));
            push(start, otherStart);
        }

        /**
         * Whether two are parted where the first one's halves meet: if it has few leaves, as that makes few
         * pieces, or both have many. So pieces of it are nodes that are in it, not parted in between.
         */
        private boolean leads(int one, int two) {
            if (trees.isLeaf(one) || trees.isLeaf(two)) return trees.isLeaf(two);
            return Math.min(FEW, trees.leaves(one)) <= Math.min(FEW, trees.leaves(two));
        }

        // ------------------------------------------------------------ told at once

        /** What comes of two that needn't be parted; else NONE. */
        private int atOnce(int way, int one, int two) {
            if (two == Trees.EMPTY) return way == TURN ? trees.leaf(DELETE_ACT, trees.to(one)) : one;
            if (one == Trees.EMPTY) {
                if (way == BEHIND) return two;
                return way == TURN ? Trees.EMPTY : trees.leaf(KEEP_ACT, trees.to(two));
            }
            int act = trees.act(one);
            int other = trees.act(two);
            if (way == TURN) {
                if (act == KEEP_ACT) return one;
                if (act == DELETE_ACT) return two;
                if (trees.from(one) == 0) return trees.leaf(DELETE_ACT, trees.to(one));
            } else {
                if (trees.from(way == BEHIND ? two : one) == 0) {
                    // Letters behind what is deleted, or letters of both at one place.
                    int kept = way == BEHIND ? one : trees.leaf(KEEP_ACT, trees.to(two));
                    int letters = way == BEHIND ? two : one;
                    seam.place(way == OVER_SECOND ? kept : letters, way == OVER_SECOND ? letters : kept);
                    return seam.settle(seam.left, seam.right);
                }
                if (other == KEEP_ACT) return one;
                if (act == KEEP_ACT) return way == BEHIND ? two : trees.leaf(KEEP_ACT, trees.to(two));
                if (other == DELETE_ACT && way == BEHIND) return trees.leaf(DELETE_ACT, trees.from(one));
            }
            if (act == NONE || other == NONE) return NONE;
            return trees.leaf(woven(way, act, other), way == BEHIND ? trees.to(one) : trees.from(one));
        }

        /** The act that comes of two on the same letters; NONE: nothing is done with them. */
        static int woven(int way, int act, int other) {
            int on = (act >> ON_AT) & ALL_BITS;
            int off = act & ALL_BITS;
            int otherOn = (other >> ON_AT) & ALL_BITS;
            int otherOff = other & ALL_BITS;
            if (way == TURN) {
                int had = other >> MARKS_AT;
                if (act <= DELETE_ACT) return other;
                return KEEP_ACT | ((off & had) << ON_AT) | (on & ~had);
            }
            if (way == BEHIND) {
                if (other <= DELETE_ACT) return act < DELETE_ACT ? NONE : DELETE_ACT;
                if (act < DELETE_ACT) return (act | (otherOn << MARKS_AT)) & ~(otherOff << MARKS_AT);
                return KEEP_ACT | (((on & ~otherOff) | otherOn) << ON_AT) | (off & ~otherOn) | otherOff;
            }
            if (other <= DELETE_ACT) return NONE;
            if (act <= DELETE_ACT || way == OVER_SECOND) return act;
            int spared = otherOn | otherOff;
            return KEEP_ACT | ((on & ~spared) << ON_AT) | (off & ~spared);
        }

        // ------------------------------------------------------------ leaf by leaf

        /** What comes of two that have few leaves; else NONE. */
        private int leafByLeaf(int way, int one, int two) {
            if (trees.leaves(one) > FLAT_MOST || trees.leaves(two) > FLAT_MOST) return NONE;
            flatten(one, first);
            flatten(two, second);
            long deleted = 0;
            for (int step = 0; step < 2 * FLAT_MOST && first.top + second.top > 0; step++) {
                int act = first.base() - 1;
                int other = second.base() - 1;
                boolean isOne = isAlone(way, true, act, other);
                boolean isTwo = isAlone(way, false, act, other);
                long n = isOne || !isTwo && first.count() < second.count() ? first.count() : second.count();
                int made = isOne || isTwo ? alone(way, isOne, isOne ? act : other) : woven(way, act, other);
                if (!isTwo) first.drop(n);
                if (!isOne) second.drop(n);
                if (made == DELETE_ACT) deleted += n;
                if (made > DELETE_ACT && deleted > 0) {
                    seam.put(DELETE_ACT + 1, deleted, Seam.mixed(DELETE_ACT + 1));
                    deleted = 0;
                }
                if (made != NONE && made != DELETE_ACT) seam.put(made + 1, n, Seam.mixed(made + 1));
            }
            if (deleted > 0) seam.put(DELETE_ACT + 1, deleted, Seam.mixed(DELETE_ACT + 1));
            return seam.settle(seam.bare, seam.bare);
        }

        /** The act that comes of the one of two leaves (or the other) where it is alone. */
        static int alone(int way, boolean isOne, int act) {
            if (way == OVER_FIRST || way == OVER_SECOND) return isOne ? act : KEEP_ACT;
            return way == BEHIND && !isOne ? act : DELETE_ACT;
        }

        /** Whether the one of two leaves (or the other) does what it does where the other has no letters. */
        static boolean isAlone(int way, boolean isOne, int act, int other) {
            boolean hasLetters = act >= 0 && act < DELETE_ACT;
            boolean otherHasLetters = other >= 0 && other < DELETE_ACT;
            switch (way) {
                case TURN: return isOne && hasLetters;
                case BEHIND: return isOne ? act == DELETE_ACT && !otherHasLetters : otherHasLetters;
                case OVER_FIRST: return isOne ? hasLetters : otherHasLetters && !hasLetters;
                default: return isOne ? hasLetters && !otherHasLetters : otherHasLetters;
            }
        }

        /** All leaves of a node that has not too many, the first one on top. */
        private void flatten(int root, Edge flat) {
            flat.top = 0;
            int open = 0;
            path[open++] = root;
            for (int step = 0; step < 2 * FLAT_MOST && open > 0; step++) {
                int node = path[--open];
                if (trees.isLeaf(node)) {
                    flat.push(node, 0);
                    continue;
                }
                int second = trees.isPair(node) ? trees.right(node) : trees.left(node);
                long more = trees.isPair(node) ? 1 : trees.times(node) - 1;
                if (open < path.length) path[open++] = trees.left(node);
                for (int k = 0; k < more && open < path.length; k++) path[open++] = second;
            }
        }

        // ------------------------------------------------------------ what is remembered

        /** Unlike frames have unlike keys. */
        private long keyOf(int way, int frame) {
            long both = ((long) nodeAt(frames, frame + ONE) << Trees.ID_BITS) | nodeAt(frames, frame + TWO);
            long key = ((both * WAYS + way) * KEY_SPREAD) & KEY_MASK;
            return key ^ (key >>> KEY_BITS / 2);
        }

        private int remembered(int way, int frame) {
            long key = keyOf(way, frame);
            int place = 2 * ((int) key & PLACE_MASK);
            long[] memory = trees.pool;
            if (place < 0 || place + 1 >= MEMORY || MEMORY > memory.length) return NONE;
            long told = IS_REMEMBERED | (key >>> PLACE_BITS);
            if (memory[place] >>> Trees.ID_BITS == told) return (int) memory[place] & Trees.ID_MASK;
            return memory[place + 1] >>> Trees.ID_BITS == told ? (int) memory[place + 1] & Trees.ID_MASK : NONE;
        }

        /** Two are remembered at one place, the later one ahead. */
        private void remember(int way, int frame, int made) {
            long key = keyOf(way, frame);
            int place = 2 * ((int) key & PLACE_MASK);
            long[] memory = trees.pool;
            if (trees.hasFailed || place < 0 || place + 1 >= MEMORY || MEMORY > memory.length) return;
            memory[place + 1] = memory[place];
            memory[place] = ((IS_REMEMBERED | (key >>> PLACE_BITS)) << Trees.ID_BITS) | made;
        }

        /** Makes room, if it is scarce; what was made just now is held, too. */
        void tidy(int node) {
            if (!trees.isScarce()) return;
            Arrays.fill(frames, Math.min(Math.max(top, 0) * FRAME, frames.length), frames.length, Trees.EMPTY);
            works.collect();
            works.sweep();
            works.pin(hand, tasks, open);
            for (int stage = 0; stage < Works.STAGES && (stage == 0 || !trees.isRoomy()); stage++) {
                works.giveUp(stage);
                trees.tidy(node, frames, works.nodes);
                isTight = isTight || stage > 0;
            }
            trees.endTidying();
            Arrays.fill(trees.pool, 0, Math.min(MEMORY, trees.pool.length), 0L);
        }
    }

    /**
     * Reads edits and texts that are too big to be nodes, run by run: a run is an act that is done with some
     * letters. They are woven while they are read, from what they are made of. Of each that is needed for that
     * some windows are kept: runs that stand next to one another, and how far both that it is woven of were
     * read for them. What is in no window is woven again, from the nearest window ahead of it on; so there is no
     * bound for what can be read, but for time.
     *
     * A key tells a place in an edit: how long the old text and the new one are ahead of it, together.
     */
    private static final class Reader {
        private static final int ACT_BITS = 10;
        private static final int ACT_MASK = (1 << ACT_BITS) - 1;
        private static final long RUN_MOST = 1L << 53;

        /**
         * A window: the keys at which it begins and ends (NONE: it holds nothing), how far both were read, how
         * many letters are deleted there already, but come behind the letters that are inserted; the key that is
         * wanted; two for each run, and one if it is the last window; when it was used (MAX: it is woven just
         * now); the next window of the same work; the work's rank; then its runs.
         */
        private static final int START = 0;
        private static final int END = 1;
        private static final int ONE = 2;
        private static final int TWO = 3;
        private static final int DELETED = 4;
        private static final int WANTED = 5;
        private static final int SIZE = 6;
        private static final int USED = 7;
        private static final int NEXT = 8;
        private static final int OWNER = 9;
        private static final int HEADER = 10;
        /** What is copied of a window, so that the next one goes on from it. */
        private static final int GOES_ON = 5;
        private static final long MAX = -1L >>> 1;

        private static final int RUNS_LEAST = 4;
        private static final int RUNS_MOST = 512;
        /** Of so many windows for each work those that are read at many places at once have more. */
        private static final int WINDOWS_EACH = 8;
        /** The one of so many that was used the longest ago is woven anew; but each work keeps those it used last. */
        private static final int SAMPLE = 16;
        private static final int KEPT = 4;

        /** What has no more runs may become a node; they stand at the pool's end. */
        private static final int FEW_MOST = 1 << 12;
        private static final int FEW_AT = Trees.POOL - FEW_MOST;
        private static final long FEW_STEPS = 1L << 21;
        /** Of what is taken over others there is much that nobody asks about. */
        private static final long FEW_STEPS_OVER = 1L << 17;
        private static final long STEPS_MOST = 1L << 60;

        /** Places: in the two that something is woven of, and in the two that are asked about. */
        private static final int FIRST = 2;
        private static final int SECOND = 3;
        private static final int PLACES = 4;
        /** Of each place: the work, where the run stands, where those of its window end, its act (NONE: it is the end). */
        private static final int SOURCE = 0;
        private static final int AT = 1;
        private static final int RUNS_END = 2;
        private static final int ACT = 3;
        private static final int SPOT = 4;

        private final Works works;
        private final Edge edge;
        /** Windows that are to be woven, each for the one ahead of it. */
        private final int[] stack;
        private final int[] cone = new int[Works.WORKS_MOST];
        private final int[] ranks = new int[Works.WORKS_MOST];
        private final int[] heads = new int[Works.WORKS_MOST];
        private final int[] spots = new int[PLACES * SPOT];
        private final long[] keys = new long[PLACES];
        private final long[] lefts = new long[PLACES];
        private int coneSize;
        private int stride;
        private int taken;
        private int hand;
        private int top;
        private long steps;
        private long stepsMost;
        /** The run that is read: as many letters with which the same is done as there are, and what is ahead of it. */
        private int act;
        private long count;
        private long from;
        private long to;

        Reader(Works store) {
            works = store;
            stack = store.trail;
            edge = new Edge(store.trees, false);
        }

        // ------------------------------------------------------------ begun and ended

        /** What must be woven to read a work, isn't there, and isn't too big to be; NONE. */
        int missing(int work) {
            coneSize = 0;
            add(work);
            for (int i = 0; i < coneSize && i < cone.length; i++) {
                int its = cone[i];
                if (works.isThere(its)) continue;
                if (i > 0 && !works.isBig(its)) return its;
                add(works.one(its));
                add(works.two(its));
            }
            return NONE;
        }

        private void add(int work) {
            if (work < 0 || work >= ranks.length || coneSize >= cone.length) return;
            int rank = ranks[work];
            if (rank >= 0 && rank < coneSize && cone[rank] == work) return;
            ranks[work] = coneSize;
            cone[coneSize++] = work;
        }

        /** Begins to read one work or two, at a key of the first one. */
        void open(int one, int two, long key) {
            coneSize = 0;
            add(one);
            add(two);
            for (int i = 0; i < coneSize && i < cone.length; i++) {
                if (works.isThere(cone[i])) continue;
                add(works.one(cone[i]));
                add(works.two(cone[i]));
            }
            int room = FEW_AT / Math.max(coneSize, 1);
            int runs = RUNS_MOST;
            for (; runs > RUNS_LEAST && room / (HEADER + runs) < WINDOWS_EACH; runs /= 2) continue;
            stride = HEADER + runs;
            taken = 0;
            hand = 0;
            Arrays.fill(heads, 0, Math.min(coneSize, heads.length), NONE);
            steps = 0;
            stepsMost = STEPS_MOST;
            act = NONE;
            count = 0;
            from = 0;
            to = 0;
            begin(FIRST, one, key);
            begin(SECOND, two, 0);
        }

        /** What others remember in the pool isn't there any more. */
        void close() {
            Arrays.fill(works.trees.pool, 0, Math.max(0, Math.min(taken * stride, FEW_AT)), 0L);
        }

        private void begin(int place, int work, long key) {
            spots[SPOT * place + SOURCE] = work >= 0 && work < ranks.length ? work : Works.EMPTY;
            spots[SPOT * place + AT] = NONE;
            keys[place] = key;
            lefts[place] = 0;
        }

        // ------------------------------------------------------------ windows

        private boolean isWindow(int at) {
            return at >= 0 && stride > HEADER && at + stride <= FEW_AT;
        }

        /** The window of a work in which a key is, ahead of its others from now on; NONE. */
        private int windowAt(int work, long key) {
            long[] pool = works.trees.pool;
            int rank = ranks[work];
            int before = NONE;
            int at = rank >= 0 && rank < coneSize ? heads[rank] : NONE;
            for (int k = 0; k < taken && at >= 0 && at + stride <= FEW_AT; k++) {
                boolean isIn = key < pool[at + END] || key == pool[at + END] && (pool[at + SIZE] & 1) != 0;
                if (isIn && pool[at + START] <= key) {
                    pool[at + USED] = ++steps;
                    if (before == NONE) return at;
                    pool[before + NEXT] = pool[at + NEXT];
                    pool[at + NEXT] = heads[rank];
                    heads[rank] = at;
                    return at;
                }
                before = at;
                at = (int) pool[at + NEXT];
            }
            return NONE;
        }

        /** Whether what is next at a place is in a window; it stands at it then. */
        private boolean isReady(int place) {
            long[] pool = works.trees.pool;
            int spot = SPOT * place;
            int i = spots[spot + AT];
            if (i != NONE && (lefts[place] > 0 || spots[spot + ACT] == NONE)) return true;
            long key = keys[place];
            long ahead = key;
            int end = spots[spot + RUNS_END];
            if (i != NONE) i++;
            if (i == NONE || i >= end) {
                int window = windowAt(spots[spot + SOURCE], key);
                spots[spot + AT] = NONE;
                if (window == NONE) return false;
                ahead = pool[window + START];
                i = window + HEADER;
                end = i + (int) (pool[window + SIZE] >> 1);
            }
            for (; i < end && i < FEW_AT; i++) {
                long n = pool[i] >>> ACT_BITS;
                int its = (int) pool[i] & ACT_MASK;
                long after = ahead + (its < KEEP_ACT ? n : 2 * n);
                if (after > key) {
                    lefts[place] = its < KEEP_ACT ? after - key : (after - key) / 2;
                    spots[spot + ACT] = its;
                    break;
                }
                ahead = after;
            }
            if (i >= end) spots[spot + ACT] = NONE;
            if (i >= end) lefts[place] = 0;
            spots[spot + AT] = i;
            spots[spot + RUNS_END] = end;
            return true;
        }

        /** So many letters of the run at a place are passed. */
        private void pass(int place, long n) {
            keys[place] += spots[SPOT * place + ACT] < KEEP_ACT ? n : 2 * n;
            lefts[place] -= n;
        }

        /** So many letters of the text that something is turned for are passed unread. */
        private void skip(long n) {
            long rest = n;
            for (int k = 0; k < RUNS_MOST && rest > 0 && spots[SPOT + AT] != NONE; k++) {
                long passed = Math.min(rest, lefts[1]);
                keys[1] += passed;
                lefts[1] -= passed;
                rest -= passed;
                int i = spots[SPOT + AT] + 1;
                if (rest == 0) continue;
                spots[SPOT + AT] = i < spots[SPOT + RUNS_END] && i < FEW_AT ? i : NONE;
                if (spots[SPOT + AT] == NONE) continue;
                spots[SPOT + ACT] = (int) works.trees.pool[i] & ACT_MASK;
                lefts[1] = works.trees.pool[i] >>> ACT_BITS;
            }
            keys[1] += rest;
        }

        /** Whether a window is one of the last so many that were used of its work. */
        private boolean isKept(int window, int kept) {
            long[] pool = works.trees.pool;
            int rank = (int) pool[window + OWNER];
            int at = rank >= 0 && rank < coneSize ? heads[rank] : NONE;
            for (int k = 0; k < kept && at >= 0 && at + stride <= FEW_AT; k++) {
                if (at == window) return true;
                at = (int) pool[at + NEXT];
            }
            return false;
        }

        /** A window that is free, or else one that wasn't used lately, of whatever work. */
        private int spare() {
            long[] pool = works.trees.pool;
            if ((taken + 1) * stride <= FEW_AT) return taken++ * stride;
            int kept = taken > 2 * KEPT * coneSize ? KEPT : 1;
            int found = NONE;
            for (int k = 0; k < taken && (k < SAMPLE || found == NONE); k++) {
                hand = hand + 1 < taken ? hand + 1 : 0;
                int its = hand * stride;
                boolean isOlder = pool[its + USED] != MAX && (found == NONE || pool[its + USED] < pool[found + USED]);
                if (isOlder && !isKept(its, kept)) found = its;
            }
            for (int k = 0; k < taken && found == NONE; k++) {
                if (pool[k * stride + USED] != MAX) found = k * stride;
            }
            if (!isWindow(found)) return 0;
            int rank = (int) pool[found + OWNER];
            int at = rank >= 0 && rank < coneSize ? heads[rank] : NONE;
            if (at == found) heads[rank] = (int) pool[found + NEXT];
            for (int k = 0; k < taken && at != found && at >= 0 && at + stride <= FEW_AT; k++) {
                int next = (int) pool[at + NEXT];
                if (next == found) pool[at + NEXT] = pool[found + NEXT];
                at = next;
            }
            return found;
        }

        /**
         * A window of a work is to be woven in which a key is; it begins where the nearest one ahead of it ends.
         * Whether that isn't at the key.
         */
        private boolean ask(int work, long key) {
            long[] pool = works.trees.pool;
            int rank = ranks[work];
            if (rank < 0 || rank >= coneSize || top >= stack.length) return false;
            int nearest = NONE;
            int at = heads[rank];
            for (int k = 0; k < taken && at >= 0 && at + stride <= FEW_AT; k++) {
                if (pool[at + END] <= key && (nearest == NONE || pool[at + END] > pool[nearest + END])) nearest = at;
                at = (int) pool[at + NEXT];
            }
            boolean isNext = nearest != NONE && pool[nearest + END] == key;
            int made = spare();
            if (nearest != NONE) System.arraycopy(pool, nearest, pool, made, GOES_ON);
            else Arrays.fill(pool, made, made + GOES_ON, 0L);
            pool[made + START] = pool[made + END];
            pool[made + WANTED] = key;
            pool[made + SIZE] = 0;
            pool[made + USED] = MAX;
            pool[made + OWNER] = rank;
            pool[made + NEXT] = heads[rank];
            heads[rank] = made;
            stack[top++] = made;
            return !isNext;
        }

        /** Where it can be told how far both were read at a key, all ahead of it needn't be woven. */
        private void leap(int work, long key) {
            int at = top > 0 ? stack[top - 1] : 0;
            int one = works.one(work);
            int two = works.two(work);
            boolean isThere = works.isThere(work);
            boolean isText = works.from(work) == 0;
            boolean isKept = works.way(work) == Loom.TURN || works.isStraight(two);
            long place = isText ? key : key / 2;
            long otherPlace = place;
            if (!isThere && isText && works.isThere(two) && works.way(work) == Loom.BEHIND && key < works.to(two)) {
                otherPlace = works.trees.fromAt(works.node(two), place);
            } else if (!isThere && (isText ? works.way(work) != Loom.BEHIND : !works.isStraight(one) || !works.isStraight(work))) {
                return;
            } else if (!isThere && !isKept) {
                return;
            }
            boolean isOfText = isText || works.way(work) != Loom.TURN;
            works.trees.pool[at + ONE] = isText ? otherPlace : 2 * place;
            works.trees.pool[at + TWO] = isOfText ? place + otherPlace : place;
            works.trees.pool[at + DELETED] = 0;
            works.trees.pool[at + START] = key;
            works.trees.pool[at + END] = key;
        }

        /** So many letters with which an act is done are next in a window. */
        private void put(int at, int done, long n) {
            long[] pool = works.trees.pool;
            int last = at + HEADER + (int) (pool[at + SIZE] >> 1) - 1;
            if (at < 0 || last < at || last + 1 >= at + stride || last + 1 >= FEW_AT) return;
            pool[at + END] += done < KEEP_ACT ? n : 2 * n;
            boolean goesOn = pool[at + SIZE] > 1 && (pool[last] & ACT_MASK) == done;
            if (goesOn && (pool[last] >>> ACT_BITS) + n < RUN_MOST) {
                pool[last] += n << ACT_BITS;
            } else {
                pool[last + 1] = (n << ACT_BITS) | done;
                pool[at + SIZE] += 2;
            }
        }

        private boolean isFull(int at) {
            return HEADER + (works.trees.pool[at + SIZE] >> 1) + 2 > stride;
        }

        /** A window of a node: it begins where it is wanted. */
        private void readNode(int at, int node) {
            Trees trees = works.trees;
            long ahead = works.trees.pool[at + END];
            edge.top = 0;
            edge.put(trees.base(node), trees.times(node), 0);
            for (long k = 0; k < STEPS_MOST && edge.top > 0 && !isFull(at); k++) {
                int base = edge.base();
                long size = trees.from(base) + trees.to(base);
                if (ahead > 0 && ahead >= size) {
                    long whole = Math.min(size > 0 ? ahead / size : 1, edge.count());
                    ahead -= whole * size;
                    edge.drop(whole);
                } else if (base > Trees.ACTS) {
                    edge.sink(ahead > 0 ? trees.level(base) - 1 : 0);
                } else {
                    put(at, base - 1, edge.count());
                    edge.drop(edge.count());
                }
            }
            if (edge.top == 0) works.trees.pool[at + SIZE] |= 1;
        }

        /** Weaves on till a window is full or all is woven: NONE; or till one of both must be read on: which one. */
        private int weaveOn(int at, int work) {
            long[] pool = works.trees.pool;
            int way = works.way(work);
            int lacks = NONE;
            begin(0, works.one(work), pool[at + ONE]);
            begin(1, works.two(work), pool[at + TWO]);
            long deleted = pool[at + DELETED];
            for (long k = 0; k < STEPS_MOST && lacks == NONE && !isFull(at) && (pool[at + SIZE] & 1) == 0; k++) {
                steps++;
                if (!isReady(0)) {
                    lacks = 0;
                    break;
                }
                int done = spots[ACT];
                // To turn what is kept or inserted, the text needn't be read.
                boolean isBoth = way != Loom.TURN || done == DELETE_ACT || done > KEEP_ACT;
                if (isBoth && !isReady(1)) {
                    lacks = 1;
                    break;
                }
                int other = isBoth ? spots[SPOT + ACT] : NONE;
                boolean isOne = Loom.isAlone(way, true, done, other);
                boolean isTwo = !isOne && Loom.isAlone(way, false, done, other);
                long n = isOne || !isBoth || !isTwo && lefts[0] < lefts[1] ? lefts[0] : lefts[1];
                if (n < 1) {
                    if (deleted > 0) put(at, DELETE_ACT, deleted);
                    deleted = 0;
                    pool[at + SIZE] |= 1;
                    works.measured(work, pool[at + END]);
                    break;
                }
                int made = isOne || isTwo ? Loom.alone(way, isOne, isOne ? done : other)
                    : isBoth ? Loom.woven(way, done, other) : KEEP_ACT;
                if (!isTwo) pass(0, n);
                if (!isOne && isBoth) pass(1, n);
                else if (!isOne) skip(n);
                if (made == DELETE_ACT) deleted += n;
                if (made > DELETE_ACT && deleted > 0) {
                    put(at, DELETE_ACT, deleted);
                    deleted = 0;
                }
                if (made != NONE && made != DELETE_ACT) put(at, made, n);
            }
            pool[at + ONE] = keys[0];
            pool[at + TWO] = keys[1];
            pool[at + DELETED] = deleted;
            return lacks;
        }

        // ------------------------------------------------------------ read

        /** Weaves till what is next at a place is in a window: whether it is, or it took too many steps. */
        boolean isAtHand(int place) {
            long[] pool = works.trees.pool;
            boolean isReady = isReady(place);
            for (int round = 0; round < PLACES && !isReady; round++) {
                top = 0;
                int lacks = place;
                for (long k = 0; k < STEPS_MOST && (top > 0 || lacks != NONE) && steps <= stepsMost; k++) {
                    if (lacks != NONE) {
                        int wanted = spots[SPOT * lacks];
                        if (ask(wanted, keys[lacks])) leap(wanted, keys[lacks]);
                    }
                    lacks = NONE;
                    if (top == 0) continue;
                    int at = stack[top - 1];
                    boolean isLast = (pool[at + SIZE] & 1) != 0;
                    if (isLast || isFull(at) && pool[at + END] > pool[at + WANTED]) {
                        pool[at + USED] = ++steps;
                        top--;
                        continue;
                    }
                    if (isFull(at)) {
                        pool[at + START] = pool[at + END];
                        pool[at + SIZE] = 0;
                    }
                    int rank = (int) pool[at + OWNER];
                    int work = rank >= 0 && rank < coneSize ? cone[rank] : Works.EMPTY;
                    steps++;
                    if (works.isThere(work)) readNode(at, works.node(work));
                    else lacks = weaveOn(at, work);
                    // What is next of long runs of the same needn't be woven on to be read.
                    boolean isLong = pool[at + END] > pool[at + WANTED] && pool[at + END] - pool[at + START] >= stride;
                    if (lacks == NONE || !isLong) continue;
                    pool[at + USED] = ++steps;
                    lacks = NONE;
                    top--;
                }
                // A window of the other one may be gone.
                spots[SPOT * FIRST + AT] = NONE;
                spots[SPOT * SECOND + AT] = NONE;
                if (steps > stepsMost) return false;
                isReady = isReady(place);
            }
            return isReady;
        }

        /** Goes on to the next run of the first one: whether there is one. */
        boolean next() {
            if (act >= DELETE_ACT) from += count;
            if (act != DELETE_ACT) to += count;
            act = NONE;
            count = 0;
            for (long k = 0; k < STEPS_MOST && isAtHand(FIRST); k++) {
                int its = spots[SPOT * FIRST + ACT];
                if (its == NONE || act != NONE && its != act) break;
                act = its;
                count += lefts[FIRST];
                pass(FIRST, lefts[FIRST]);
            }
            return act != NONE;
        }

        /** What is next of the first one or the second. */
        int actAt(int place) {
            return place == SECOND ? spots[SPOT * SECOND + ACT] : spots[SPOT * FIRST + ACT];
        }

        /** Passes as many letters as both do the same with: how many. */
        long passBoth() {
            long n = Math.min(lefts[FIRST], lefts[SECOND]);
            pass(FIRST, n);
            pass(SECOND, n);
            return n;
        }

        /** The act at a key; NONE: none such. */
        int actOf(int work, long key) {
            open(work, Works.EMPTY, key);
            int found = isAtHand(FIRST) ? spots[SPOT * FIRST + ACT] : NONE;
            close();
            return found;
        }

        /** Reads all of a work, if that takes few steps: how many runs it has, if they are few; else NONE. */
        int few(int work) {
            open(work, Works.EMPTY, 0);
            boolean isOver = works.way(work) == Loom.OVER_FIRST || works.way(work) == Loom.OVER_SECOND;
            stepsMost = isOver ? FEW_STEPS_OVER : FEW_STEPS;
            int found = 0;
            boolean isDone = false;
            for (int k = 0; k <= FEW_MOST && !isDone && isAtHand(FIRST); k++) {
                int its = spots[SPOT * FIRST + ACT];
                isDone = its == NONE;
                if (isDone || found >= FEW_MOST) continue;
                works.trees.pool[FEW_AT + found] = (lefts[FIRST] << ACT_BITS) | its;
                found++;
                pass(FIRST, lefts[FIRST]);
            }
            close();
            return isDone ? found : NONE;
        }

        /** Of the runs that were few the i-th one's act. */
        int fewAct(int i) {
            return i >= 0 && i < FEW_MOST ? (int) works.trees.pool[FEW_AT + i] & ACT_MASK : KEEP_ACT;
        }

        long fewLetters(int i) {
            return i >= 0 && i < FEW_MOST ? works.trees.pool[FEW_AT + i] >>> ACT_BITS : 0L;
        }

        /** Finds out how long the texts of a work are. */
        void measure(int work) {
            works.measure(work);
            if (works.to(work) != NONE) return;
            open(work, Works.EMPTY, 0);
            for (long k = 0; k < STEPS_MOST && isAtHand(FIRST); k++) {
                if (spots[SPOT * FIRST + ACT] == NONE) break;
                pass(FIRST, lefts[FIRST]);
            }
            close();
            works.measure(work);
        }

        /** Where a place goes with an edit. */
        long placeAfter(int work, long place, boolean isOwn) {
            if (works.isThere(work)) return works.trees.placeAfter(works.node(work), place, isOwn);
            if (place == 0 && !isOwn) return 0;
            open(work, Works.EMPTY, 0);
            long found = NONE;
            for (long k = 0; k < STEPS_MOST && found == NONE && next(); k++) {
                boolean isLetter = act < DELETE_ACT;
                if (isLetter ? from == place && !isOwn : from + count > place) {
                    found = act == DELETE_ACT || isLetter ? to : to + place - from;
                }
            }
            close();
            return found == NONE ? to : found;
        }
    }

    private static final class Client {
        private static final int UNDO = 0;
        private static final int REDO = 1;

        /** Slots: the text, what is sent, what waits, those to undo, those to redo. */
        private static final int TEXT = 0;
        private static final int SENT = 1;
        private static final int WAITING = 2;
        private static final int KEPT = 3;
        private static final int HELD = KEPT + 2 * KEPT_MOST;

        private final int number;
        private final Works works;
        private final int held;
        private int undos;
        private int redos;
        private boolean hasSent;
        private boolean isServed;
        private boolean hasWaiting;
        private int revision;
        private long place;
        private long otherPlace;

        Client(int ownNumber, Works store) {
            number = ownNumber;
            works = store;
            held = store.newSlots(HELD);
        }

        int ownText() {
            return works.held(held + TEXT);
        }

        long size() {
            return works.to(works.held(held + TEXT));
        }

        boolean isUnserved() {
            return hasSent && !isServed;
        }

        boolean isTooLongBy(int edit) {
            return works.to(edit) > TEXT_MOST && works.to(edit) > size();
        }

        /** Whether something is sent (0), waits (1), is to undo (2) or to redo (3). */
        boolean has(int what) {
            switch (what) {
                case 0: return hasSent;
                case 1: return hasWaiting;
                default: return countOf(what - 2) > 0;
            }
        }

        /** What is sent (0), what waits (1), the latest to undo (2), to redo (3). */
        int told(int what) {
            if (!has(what)) return Works.EMPTY;
            return what < 2 ? works.held(held + SENT + what) : latest(what - 2);
        }

        // ------------------------------------------------------------ to undo and to redo

        int countOf(int history) {
            return history == UNDO ? undos : redos;
        }

        int latest(int history) {
            return countOf(history) > 0 ? works.held(held + slotOf(history, countOf(history) - 1)) : Works.EMPTY;
        }

        private static int slotOf(int history, int i) {
            return KEPT + history * KEPT_MOST + i;
        }

        private void keep(int history, int edit) {
            int n = countOf(history);
            if (n >= KEPT_MOST) {
                for (int i = 1; i < n; i++) works.hold(held + slotOf(history, i - 1), works.held(held + slotOf(history, i)));
                n = KEPT_MOST - 1;
            }
            works.hold(held + slotOf(history, n), edit);
            putCount(history, n + 1);
        }

        private void drop(int history) {
            int n = countOf(history) - 1;
            if (n < 0) return;
            works.hold(held + slotOf(history, n), Works.EMPTY);
            putCount(history, n);
        }

        void clear(int history) {
            for (int i = countOf(history); i > 0; i--) drop(history);
        }

        private void putCount(int history, int n) {
            if (history == UNDO) undos = n;
            else redos = n;
        }

        // ------------------------------------------------------------ what is done

        /** The latest to undo or to redo goes from there, to be done. */
        void draftLatest(int history, Loom loom) {
            works.hold(loom.hand + Loom.DRAFT, latest(history));
            drop(history);
        }

        /** What was drafted is done; what turns it goes to those to undo, or to redo. */
        void doDraft(int historyOfTurned, Loom loom) {
            int edit = works.held(loom.hand + Loom.DRAFT);
            keep(historyOfTurned, loom.weave(Loom.TURN, edit, works.held(held + TEXT)));
            works.hold(held + TEXT, loom.weave(Loom.BEHIND, works.held(held + TEXT), edit));
            loom.weave(Loom.FETCH, edit, Works.EMPTY);
            place = loom.reader.placeAfter(edit, place, true);
            otherPlace = loom.reader.placeAfter(edit, otherPlace, true);
            if (!hasSent) {
                works.hold(held + SENT, edit);
                hasSent = true;
                isServed = false;
            } else {
                works.hold(held + WAITING, hasWaiting ? loom.weave(Loom.BEHIND, works.held(held + WAITING), edit) : edit);
                hasWaiting = true;
            }
        }

        // ------------------------------------------------------------ what is heard

        void hearNext(int revisions, int[] authors, Loom loom) {
            boolean isOwn = revision < authors.length && authors[revision] == number;
            int hand = loom.hand;
            works.hold(hand + Loom.COMING, works.held(revisions + revision));
            revision++;
            if (isOwn) {
                sendWaiting();
                return;
            }
            for (int stage = 0; stage < 3; stage++) {
                // Those to redo are passed by what came to the text, as those to undo are.
                if (stage == 1) {
                    works.hold(hand + Loom.CAME, works.held(hand + Loom.COMING));
                    works.hold(held + TEXT, loom.weave(Loom.BEHIND, works.held(held + TEXT), works.held(hand + Loom.CAME)));
                    loom.weave(Loom.FETCH, works.held(hand + Loom.CAME), Works.EMPTY);
                    place = loom.reader.placeAfter(works.held(hand + Loom.CAME), place, false);
                    otherPlace = loom.reader.placeAfter(works.held(hand + Loom.CAME), otherPlace, false);
                }
                if (stage == 2) works.hold(hand + Loom.COMING, works.held(hand + Loom.CAME));
                int n = passedAt(stage);
                for (int k = 0; k < n; k++) {
                    int slot = stage == 0 ? SENT + k : slotOf(stage - 1, n - 1 - k);
                    works.hold(hand + Loom.PASSED, loom.weave(Loom.OVER_SECOND, works.held(held + slot), works.held(hand + Loom.COMING)));
                    works.hold(hand + Loom.COMING, loom.weave(Loom.OVER_FIRST, works.held(hand + Loom.COMING), works.held(held + slot)));
                    works.hold(held + slot, works.held(hand + Loom.PASSED));
                }
            }
        }

        /** How many edits pass: what is sent and what waits (0), those to undo (1), to redo (2). */
        private int passedAt(int stage) {
            if (stage > 0) return countOf(stage - 1);
            if (!hasSent) return 0;
            return hasWaiting ? 2 : 1;
        }

        private void sendWaiting() {
            works.hold(held + SENT, works.held(held + WAITING));
            works.hold(held + WAITING, Works.EMPTY);
            hasSent = hasWaiting;
            isServed = false;
            hasWaiting = false;
        }

        void like(Client other) {
            works.holdLike(held, other.held, HELD);
            undos = other.undos;
            redos = other.redos;
            hasSent = other.hasSent;
            isServed = other.isServed;
            hasWaiting = other.hasWaiting;
            revision = other.revision;
            place = other.place;
            otherPlace = other.otherPlace;
        }
    }

    /**
     * The server and its clients: all that an image keeps. A meeting and its image share the
     * revisions, since those that the image counts stay as they are till another image is made.
     */
    private static final class Meeting {
        private final Works works;
        private final int revisions;
        private final int[] authors;
        private final Client[] clients = new Client[CLIENTS];
        private final int server;
        private int count;
        private int seed = 1;

        Meeting(Works store, int shared, int[] whose) {
            works = store;
            revisions = shared;
            authors = whose;
            server = store.newSlots(1);
            for (int c = 0; c < clients.length; c++) clients[c] = new Client(c, store);
        }

        /** By which client a revision is. */
        int authorAt(int i) {
            return i >= 0 && i < authors.length ? authors[i] : NONE;
        }

        Client clientAt(int c) {
            return c >= 0 && c < clients.length ? clients[c] : null;
        }

        boolean hasText(int c) {
            return c == SERVER || clientAt(c) != null;
        }

        /** The text of a client or (4) of the server. */
        int textAt(int c) {
            Client client = clientAt(c);
            return client == null ? works.held(server) : client.ownText();
        }

        /**
         * What is sent becomes the next revision. As the client has taken it over all that it
         * heard since it was sent, it is what it was when it was sent, taken over those.
         */
        void takeSent(int c, Loom loom) {
            Client client = clientAt(c);
            if (client == null || count >= REVISIONS_MOST) return;
            int hand = loom.hand;
            works.hold(hand + Loom.COMING, client.told(0));
            for (int r = client.revision; r < count; r++) {
                works.hold(hand + Loom.COMING, loom.weave(Loom.OVER_SECOND, works.held(hand + Loom.COMING), works.held(revisions + r)));
            }
            int text = loom.weave(Loom.BEHIND, works.held(server), works.held(hand + Loom.COMING));
            if (works.hasFailed || count < 0 || count >= authors.length) return;
            works.hold(server, text);
            works.hold(revisions + count, works.held(hand + Loom.COMING));
            authors[count] = c;
            count++;
            client.isServed = true;
        }

        boolean isSettled() {
            for (int c = 0; c < CLIENTS; c++) {
                Client client = clientAt(c);
                if (client != null && (client.isUnserved() || client.revision < count)) return false;
            }
            return true;
        }

        int clientsSending() {
            int found = 0;
            for (int c = 0; c < CLIENTS; c++) {
                Client client = clientAt(c);
                if (client != null && client.hasSent) found++;
            }
            return found;
        }

        /** A draw below n. */
        long draw(long n) {
            seed = seed * 1103515245 + 12345;
            return n > 0 ? (seed >>> 16) % n : 0;
        }

        void like(Meeting other) {
            works.hold(server, works.held(other.server));
            count = other.count;
            seed = other.seed;
            works.letGo(revisions + Math.max(count, 0), REVISIONS_MOST - Math.max(count, 0));
            for (int c = 0; c < CLIENTS; c++) {
                Client client = clientAt(c);
                Client his = other.clientAt(c);
                if (client != null && his != null) client.like(his);
            }
        }
    }

    /** Bytes that are read for an edit. */
    private static final class Tape {
        private final Loom loom;
        private final int[] bytes = new int[TAPE_MOST];
        private int size;
        private int place;
        private int fault;
        private boolean isInLetters;
        /** What was read last: an act done with n letters. */
        private int act;
        private int n;

        Tape(Loom user) {
            loom = user;
        }

        void add(int sign) {
            if (size >= 0 && size < bytes.length) bytes[size++] = sign;
        }

        /** Reads all of it into the draft: the fault, or NONE. Behind its end it reads 0, which fits nowhere. */
        int reads() {
            int node = Trees.EMPTY;
            place = 0;
            isInLetters = false;
            fault = size == 0 ? 0 : NONE;
            for (int k = 0; k < TAPE_MOST && fault == NONE && place < size; k++) {
                readAct();
                loom.tidy(node);
                loom.trees.failed();
                node = loom.seam.join(node, loom.trees.leaf(act, n));
                if (loom.trees.failed()) loom.works.hasFailed = true;
            }
            loom.works.hold(loom.hand + Loom.DRAFT, loom.works.known(node));
            return fault;
        }

        /** Reads one letter of an insert, or all of another part; at a fault nothing (n is 0). */
        private void readAct() {
            n = 0;
            int sign = signAt(place);
            if (isInLetters && isLetter(sign)) {
                readLetter();
                return;
            }
            isInLetters = sign == '+';
            if (sign == '+' || sign == '=' || sign == '-' || sign == '^' || sign == '_') place++;
            else fault = place;
            if (sign == '+') readLetter();
            else readOver(sign);
        }

        private void readLetter() {
            int sign = signAt(place);
            if (!isLetter(sign)) {
                fault = place;
                return;
            }
            act = sign - 'a';
            n = 1;
            place++;
        }

        private void readOver(int sign) {
            int letters = readNumber(99);
            if (sign == '=' || sign == '-') {
                act = sign == '=' ? KEEP_ACT : DELETE_ACT;
            } else {
                readDot();
                int bits = readNumber(ALL_BITS);
                act = KEEP_ACT | (sign == '^' ? bits << ON_AT : bits);
            }
            n = fault == NONE ? letters : 0;
        }

        private void readDot() {
            if (fault != NONE) return;
            if (signAt(place) == '.') place++;
            else fault = place;
        }

        /** A number of one or two digits, 1 to most; 0 at a fault. */
        private int readNumber(int most) {
            if (fault != NONE) return 0;
            int start = place;
            int value = 0;
            for (int k = 0; k < 2 && isDigit(signAt(place)); k++) {
                value = 10 * value + signAt(place) - '0';
                place++;
            }
            if (place == start) fault = place;
            else if (value < 1 || value > most) fault = start;
            else if (isDigit(signAt(place))) fault = place;
            return fault == NONE ? value : 0;
        }

        private int signAt(int i) {
            return i >= 0 && i < size && i < bytes.length ? bytes[i] : 0;
        }

        private static boolean isLetter(int sign) {
            return sign >= 'a' && sign <= 'z';
        }

        private static boolean isDigit(int sign) {
            return sign >= '0' && sign <= '9';
        }
    }

    /** Holds nothing, a row of elements, or a part as it was when it was shown. */
    private static final class Shelf {
        private static final int PART_FROM = 10;

        private final long[] elements = new long[ROW_MOST];
        private int held = NONE;
        private long size;
        private int on;
        private int off;
        private int firstLetter;

        boolean holdsNothing() {
            return held == NONE;
        }

        boolean holdsRow() {
            return held >= 0 && held < SORTS;
        }

        boolean holdsPart() {
            return held >= PART_FROM;
        }

        void holdNothing() {
            held = NONE;
            size = 0;
        }

        void holdRow(int sort, int n) {
            held = sort;
            size = n;
            Arrays.fill(elements, 0L);
        }

        /** Of a part the size is how many letters it goes over or inserts. */
        void holdPart(Teller teller) {
            held = PART_FROM + teller.kind();
            size = teller.partSize;
            on = teller.on();
            off = teller.off();
            firstLetter = teller.firstLetter();
        }

        int kind() {
            return held - PART_FROM;
        }

        int answersAs(int kind) {
            switch (kind) {
                case INSERT: return firstLetter;
                case KEEP: return Integer.bitCount(on) + Integer.bitCount(off);
                case DELETE: return told(size + 100);
                case MARK: return 16 * on + off;
                default: return told(size);
            }
        }

        long at(int i) {
            return holdsRow() && i >= 0 && i < size && i < elements.length ? elements[i] : 0L;
        }

        void put(int i, long v) {
            if (i >= 0 && i < size && i < elements.length) elements[i] = lowest(v);
        }

        /** What a sort keeps of a number: its lowest bits; of booleans whether it is 0. */
        private long lowest(long v) {
            switch (held) {
                case 0: return (byte) v;
                case 1: return (short) v;
                case 2: return (int) v;
                case 4: return v != 0 ? 1L : 0L;
                default: return v;
            }
        }

        void takeFrom(Shelf source, int i, int j, int n) {
            if (!isStretch(i, n, source.elements.length) || !isStretch(j, n, elements.length)) return;
            System.arraycopy(source.elements, i, elements, j, n);
        }
    }
}
