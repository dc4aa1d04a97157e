import java.util.ArrayList;
import java.util.Arrays;
import java.util.List;

/**
 * The document told a second time, letter by letter: an edit says for each letter of its text what
 * becomes of it, and for each gap between letters what is inserted there. It shares no code and no
 * form with EditsMeet, and follows the document's words as they stand (what is sent is kept as it
 * was when it was sent, and for which revision). It is slow, and it is for tests alone.
 */
final class Model {
    static final int BAD = -2, OTHER = -3, NOTHING = -4, STUCK = -5, FULL = -6;

    record Sign(int letter, int marks) {
        Sign turned(int on, int off) {
            return new Sign(letter, (marks | on) & ~off);
        }
    }

    /** A part as the document tells it. */
    record Part(int kind, int n, int on, int off, List<Sign> signs) {
    }

    static final class Ed {
        final int from;
        final List<List<Sign>> gaps = new ArrayList<>();
        final boolean[] gone;
        final int[] on;
        final int[] off;

        Ed(int from) {
            this.from = from;
            for (int g = 0; g <= from; g++) gaps.add(new ArrayList<>());
            gone = new boolean[from];
            on = new int[from];
            off = new int[from];
        }

        /** What is inserted behind a deleted letter goes ahead of it. */
        Ed plain() {
            for (int g = from; g > 0; g--) {
                if (!gone[g - 1]) continue;
                gaps.get(g - 1).addAll(gaps.get(g));
                gaps.get(g).clear();
            }
            return this;
        }

        Ed copy() {
            Ed e = new Ed(from);
            for (int g = 0; g <= from; g++) e.gaps.get(g).addAll(gaps.get(g));
            for (int i = 0; i < from; i++) {
                e.gone[i] = gone[i];
                e.on[i] = on[i];
                e.off[i] = off[i];
            }
            return e;
        }

        int inserted() {
            int n = 0;
            for (List<Sign> gap : gaps) n += gap.size();
            return n;
        }

        int to() {
            int n = inserted();
            for (boolean g : gone) n += g ? 0 : 1;
            return n;
        }

        List<Sign> apply(List<Sign> text) {
            List<Sign> out = new ArrayList<>();
            for (int i = 0; i <= from; i++) {
                out.addAll(gaps.get(i));
                if (i < from && !gone[i]) out.add(text.get(i).turned(on[i], off[i]));
            }
            return out;
        }

        List<Part> parts() {
            List<Part> out = new ArrayList<>();
            for (int i = 0; i <= from; i++) {
                if (!gaps.get(i).isEmpty()) out.add(new Part(1, gaps.get(i).size(), 0, 0, List.copyOf(gaps.get(i))));
                if (i == from) break;
                int kind = gone[i] ? 4 : on[i] + off[i] != 0 ? 5 : 3;
                int o = gone[i] ? 0 : on[i];
                int f = gone[i] ? 0 : off[i];
                Part last = out.isEmpty() ? null : out.get(out.size() - 1);
                if (last != null && last.kind == kind && last.on == o && last.off == f) {
                    out.set(out.size() - 1, new Part(kind, last.n + 1, o, f, List.of()));
                } else {
                    out.add(new Part(kind, 1, o, f, List.of()));
                }
            }
            return out;
        }

        String spelled() {
            StringBuilder s = new StringBuilder();
            for (Part p : parts()) {
                if (p.kind == 1) {
                    s.append('+');
                    for (Sign sign : p.signs) s.append((char) ('a' + sign.letter));
                } else if (p.kind == 3) {
                    s.append('=').append(p.n);
                } else if (p.kind == 4) {
                    s.append('-').append(p.n);
                } else if (p.off == 0) {
                    s.append('^').append(p.n).append('.').append(p.on);
                } else if (p.on == 0) {
                    s.append('_').append(p.n).append('.').append(p.off);
                } else {
                    s.append('^').append(p.n).append('.').append(p.on).append('_').append(p.off);
                }
            }
            return s.toString();
        }
    }

    /** b behind a: the letters of the text between are followed one by one. */
    static Ed behindOf(Ed a, Ed b) {
        Ed out = new Ed(a.from);
        int between = 0;
        for (int i = 0; i <= a.from; i++) {
            for (Sign sign : a.gaps.get(i)) {
                out.gaps.get(i).addAll(b.gaps.get(between));
                if (!b.gone[between]) out.gaps.get(i).add(sign.turned(b.on[between], b.off[between]));
                between++;
            }
            if (i == a.from) break;
            if (a.gone[i]) {
                out.gone[i] = true;
                continue;
            }
            out.gaps.get(i).addAll(b.gaps.get(between));
            out.gone[i] = b.gone[between];
            if (!out.gone[i]) {
                for (int bit = 1; bit < 16; bit *= 2) {
                    boolean aOn = (a.on[i] & bit) != 0, aOff = (a.off[i] & bit) != 0;
                    boolean bOn = (b.on[between] & bit) != 0, bOff = (b.off[between] & bit) != 0;
                    if (bOn || aOn && !bOff) out.on[i] |= bit;
                    if (bOff || aOff && !bOn) out.off[i] |= bit;
                }
            }
            between++;
        }
        out.gaps.get(a.from).addAll(b.gaps.get(between));
        return out.plain();
    }

    static Ed turnedOf(Ed a, List<Sign> text) {
        Ed out = new Ed(a.to());
        int place = 0;
        for (int i = 0; i <= a.from; i++) {
            for (int k = 0; k < a.gaps.get(i).size(); k++) out.gone[place++] = true;
            if (i == a.from) break;
            if (a.gone[i]) {
                out.gaps.get(place).add(text.get(i));
                continue;
            }
            for (int bit = 1; bit < 16; bit *= 2) {
                boolean had = (text.get(i).marks & bit) != 0;
                if ((a.on[i] & bit) != 0 && !had) out.off[place] |= bit;
                if ((a.off[i] & bit) != 0 && had) out.on[place] |= bit;
            }
            place++;
        }
        return out.plain();
    }

    static Ed overOf(Ed a, Ed b, int first) {
        Ed out = new Ed(b.to());
        int place = 0;
        for (int i = 0; i <= a.from; i++) {
            if (first == 1) out.gaps.get(place).addAll(a.gaps.get(i));
            place += b.gaps.get(i).size();
            if (first == 0) out.gaps.get(place).addAll(a.gaps.get(i));
            if (i == a.from || b.gone[i]) continue;
            out.gone[place] = a.gone[i];
            if (!a.gone[i]) {
                int turnedByB = first == 1 ? b.on[i] + b.off[i] : 0;
                out.on[place] = a.on[i] & ~turnedByB;
                out.off[place] = a.off[i] & ~turnedByB;
            }
            place++;
        }
        return out.plain();
    }

    /** The place between two letters is followed: how many letters then stand ahead of it. */
    static int along(int place, Ed e, boolean own) {
        int ahead = 0;
        for (int i = 0; i <= e.from; i++) {
            if (i < place || i == place && own) ahead += e.gaps.get(i).size();
            if (i < place && !e.gone[i]) ahead++;
        }
        return ahead;
    }

    static final class Cl {
        List<Sign> text = new ArrayList<>();
        int revision, sentFor, cursor, otherCursor;
        boolean served;
        Ed sent, sentAsItWas, waits;
        List<Ed> undo = new ArrayList<>(), redo = new ArrayList<>();

        Cl copy() {
            Cl c = new Cl();
            c.text = new ArrayList<>(text);
            c.revision = revision;
            c.sentFor = sentFor;
            c.cursor = cursor;
            c.otherCursor = otherCursor;
            c.served = served;
            c.sent = sent;
            c.sentAsItWas = sentAsItWas;
            c.waits = waits;
            c.undo = new ArrayList<>(undo);
            c.redo = new ArrayList<>(redo);
            return c;
        }

        void effect(Ed e) {
            text = e.apply(text);
            cursor = along(cursor, e, true);
            otherCursor = along(otherCursor, e, true);
            if (sent == null) {
                sent = e;
                sentAsItWas = e;
                sentFor = revision;
                served = false;
            } else {
                waits = waits == null ? e : behindOf(waits, e);
            }
        }

        void push(List<Ed> list, Ed e) {
            list.add(e);
            if (list.size() > 20) list.remove(0);
        }

        void done(Ed e) {
            push(undo, turnedOf(e, text));
            redo.clear();
            effect(e);
        }

        void again(List<Ed> source, List<Ed> target) {
            Ed e = source.remove(source.size() - 1);
            push(target, turnedOf(e, text));
            effect(e);
        }

        void hear(Ed e, boolean own) {
            revision++;
            if (own) {
                sent = waits;
                sentAsItWas = waits;
                sentFor = revision;
                served = false;
                waits = null;
                return;
            }
            Ed come = e;
            if (sent != null) {
                Ed overSent = overOf(come, sent, 1);
                sent = overOf(sent, come, 0);
                come = overSent;
            }
            if (waits != null) {
                Ed overWaits = overOf(come, waits, 1);
                waits = overOf(waits, come, 0);
                come = overWaits;
            }
            text = come.apply(text);
            cursor = along(cursor, come, false);
            otherCursor = along(otherCursor, come, false);
            for (List<Ed> list : List.of(undo, redo)) {
                Ed it = come;
                for (int i = list.size() - 1; i >= 0; i--) {
                    Ed entry = list.get(i);
                    list.set(i, overOf(entry, it, 0));
                    it = overOf(it, entry, 1);
                }
            }
        }
    }

    List<Sign> server = new ArrayList<>();
    List<Ed> revisions = new ArrayList<>();
    List<Integer> by = new ArrayList<>();
    Cl[] clients = {new Cl(), new Cl(), new Cl(), new Cl()};
    int seed = 1;
    Model kept;
    final Ed[] edits = new Ed[12];
    final Object[] shelves = new Object[8];
    final List<Integer> tape = new ArrayList<>();
    final int[] refusals = new int[5];

    record Row(int sort, long[] cells) {
    }

    int refuse(int why) {
        refusals[-2 - why]++;
        return why;
    }

    static boolean in(int v, int low, int high) {
        return v >= low && v <= high;
    }

    int row(int s, int sort, int n) {
        if (!in(s, 0, 7) || !in(sort, 0, 4) || !in(n, 0, 40)) return refuse(BAD);
        shelves[s] = new Row(sort, new long[n]);
        return 1;
    }

    int set(int s, int i, long v) {
        if (!in(s, 0, 7)) return refuse(BAD);
        if (shelves[s] instanceof Part) return refuse(OTHER);
        if (shelves[s] == null) return refuse(NOTHING);
        Row r = (Row) shelves[s];
        if (!in(i, 0, r.cells.length - 1)) return refuse(BAD);
        long kept = v;
        if (r.sort == 0) kept = (byte) v;
        if (r.sort == 1) kept = (short) v;
        if (r.sort == 2) kept = (int) v;
        if (r.sort == 4) kept = v == 0 ? 0 : 1;
        r.cells[i] = kept;
        return 1;
    }

    int copy(int p, int q, int i, int j, int n) {
        if (!in(p, 0, 7) || !in(q, 0, 7)) return refuse(BAD);
        Object a = shelves[p], b = shelves[q];
        if (a instanceof Part || b instanceof Part) return refuse(OTHER);
        if (a instanceof Row x && b instanceof Row y && x.sort != y.sort) return refuse(OTHER);
        if (a == null || b == null) return refuse(NOTHING);
        long[] from = ((Row) a).cells.clone();
        long[] to = ((Row) b).cells;
        if (n < 0 || i < 0 || j < 0 || (long) i + n > from.length || (long) j + n > to.length) return refuse(BAD);
        for (int k = 0; k < n; k++) to[j + k] = from[i + k];
        return n;
    }

    long element(int s, int i) {
        if (!in(s, 0, 7) || !(shelves[s] instanceof Row r)) return 0;
        return in(i, 0, r.cells.length - 1) ? r.cells[i] : 0;
    }

    int holds(int s) {
        if (!in(s, 0, 7) || shelves[s] == null) return -1;
        return shelves[s] instanceof Row r ? r.sort : 10 + ((Part) shelves[s]).kind;
    }

    int show(int s, int edit, int i) {
        if (!in(s, 0, 7) || !in(edit, -1, 11)) return refuse(BAD);
        if (edit == -1) {
            shelves[s] = null;
            return 1;
        }
        if (edits[edit] == null) return refuse(NOTHING);
        List<Part> parts = edits[edit].parts();
        if (!in(i, 0, parts.size() - 1)) return refuse(BAD);
        shelves[s] = parts.get(i);
        return 1;
    }

    int says(int s, int kind) {
        if (!in(s, 0, 7) || !in(kind, 0, 5)) return refuse(BAD);
        if (shelves[s] instanceof Row) return refuse(OTHER);
        if (shelves[s] == null) return refuse(NOTHING);
        Part p = (Part) shelves[s];
        List<List<Integer>> kindsAbove = List.of(List.of(), List.of(1, 0), List.of(), List.of(3, 2, 0),
            List.of(4, 2, 0), List.of(5, 3, 2, 0));
        if (!kindsAbove.get(p.kind).contains(kind)) return refuse(OTHER);
        if (kind == 1) return p.signs.get(0).letter;
        if (kind == 3) return Integer.bitCount(p.on + 16 * p.off);
        if (kind == 4) return 100 + p.n;
        return kind == 5 ? 16 * p.on + p.off : p.n;
    }

    int feed(int letter) {
        if (!in(letter, 0, 255)) return refuse(BAD);
        if (tape.size() == 250) return refuse(FULL);
        tape.add(letter);
        return tape.size();
    }

    int wipe() {
        int n = tape.size();
        tape.clear();
        return n;
    }

    int edit(int edit) {
        List<Integer> bytes = new ArrayList<>(tape);
        tape.clear();
        if (!in(edit, 0, 11)) return refuse(BAD);
        StringBuilder s = new StringBuilder();
        for (int b : bytes) s.append((char) b);
        int fault = faultOf(s.toString());
        if (fault >= 0) {
            refuse(BAD);
            return -300 - fault;
        }
        edits[edit] = read(s.toString());
        return edits[edit].parts().size();
    }

    /**
     * The longest beginning that some right tape begins with tells the fault, but for numbers that
     * may not be: their first digit.
     */
    static int faultOf(String s) {
        int at = 0;
        if (s.isEmpty()) return 0;
        while (at < s.length()) {
            char c = s.charAt(at);
            if (c == '+') {
                int end = at + 1;
                while (end < s.length() && s.charAt(end) >= 'a' && s.charAt(end) <= 'z') end++;
                if (end == at + 1) return end;
                at = end;
            } else if (c == '=' || c == '-' || c == '^' || c == '_') {
                int end = number(s, at + 1, 99);
                if (end < 0) return -end;
                if (c == '^' || c == '_') {
                    if (end == s.length() || s.charAt(end) != '.') return end;
                    end = number(s, end + 1, 15);
                    if (end < 0) return -end;
                }
                at = end;
            } else {
                return at;
            }
        }
        return -1;
    }

    /** Behind the number, or less than 0: the fault. */
    static int number(String s, int at, int most) {
        String digits = "";
        for (int i = at; i < s.length() && Character.isDigit(s.charAt(i)) && s.charAt(i) < 128; i++) digits += s.charAt(i);
        if (digits.isEmpty()) return -at;
        String two = digits.substring(0, Math.min(2, digits.length()));
        int v = Integer.parseInt(two);
        if (v == 0 || v > most) return -at;
        if (digits.length() > 2) return -(at + 2);
        return at + two.length();
    }

    static Ed read(String s) {
        List<String> parts = new ArrayList<>();
        for (char c : s.toCharArray()) {
            if ("+=-^_".indexOf(c) >= 0) parts.add("");
            parts.set(parts.size() - 1, parts.get(parts.size() - 1) + c);
        }
        int from = 0;
        for (String p : parts) if (p.charAt(0) != '+') from += Integer.parseInt(p.substring(1).split("\\.")[0]);
        Ed e = new Ed(from);
        int place = 0;
        for (String p : parts) {
            if (p.charAt(0) == '+') {
                for (char c : p.substring(1).toCharArray()) e.gaps.get(place).add(new Sign(c - 'a', 0));
                continue;
            }
            String[] numbers = p.substring(1).split("\\.");
            for (int k = Integer.parseInt(numbers[0]); k > 0; k--) {
                if (p.charAt(0) == '-') e.gone[place] = true;
                if (p.charAt(0) == '^') e.on[place] = Integer.parseInt(numbers[1]);
                if (p.charAt(0) == '_') e.off[place] = Integer.parseInt(numbers[1]);
                place++;
            }
        }
        return e.plain();
    }

    int of(int edit, int what) {
        if (!in(edit, 0, 11) || !in(what, 0, 5)) return refuse(BAD);
        Ed e = edits[edit];
        if (e == null) return refuse(NOTHING);
        if (what == 0) return e.parts().size();
        if (what == 1) return e.from;
        if (what == 2) return e.to();
        int n = 0;
        int kind = new int[] {1, 4, 5}[what - 3];
        for (Part p : e.parts()) n += p.kind == kind ? p.n : 0;
        return n;
    }

    int part(int edit, int i, int what) {
        if (!in(edit, 0, 11) || !in(what, 0, 3)) return refuse(BAD);
        if (edits[edit] == null) return refuse(NOTHING);
        List<Part> parts = edits[edit].parts();
        if (!in(i, 0, parts.size() - 1)) return refuse(BAD);
        Part p = parts.get(i);
        return new int[] {p.kind, p.n, p.on, p.off}[what];
    }

    int letter(int edit, int i, int k) {
        if (!in(edit, 0, 11)) return refuse(BAD);
        if (edits[edit] == null) return refuse(NOTHING);
        List<Part> parts = edits[edit].parts();
        if (!in(i, 0, parts.size() - 1)) return refuse(BAD);
        Part p = parts.get(i);
        if (p.kind != 1) return refuse(OTHER);
        if (!in(k, 0, p.n - 1)) return refuse(BAD);
        return p.signs.get(k).letter + 100 * p.signs.get(k).marks;
    }

    int spelled(int edit, int i) {
        if (!in(edit, 0, 11)) return refuse(BAD);
        if (edits[edit] == null) return refuse(NOTHING);
        String s = edits[edit].spelled();
        return in(i, 0, s.length() - 1) ? s.charAt(i) : -1;
    }

    int keepOrFull(int edit, Ed e) {
        if (e.from > 9999 || e.to() > 9999 || e.inserted() > 400) return refuse(FULL);
        edits[edit] = e;
        return e.parts().size();
    }

    int behind(int edit, int a, int b) {
        if (!in(edit, 0, 11) || !in(a, 0, 11) || !in(b, 0, 11)) return refuse(BAD);
        if (edits[a] == null || edits[b] == null) return refuse(NOTHING);
        if (edits[a].to() != edits[b].from) return refuse(STUCK);
        return keepOrFull(edit, behindOf(edits[a], edits[b]));
    }

    int over(int edit, int a, int b, int first) {
        if (!in(edit, 0, 11) || !in(a, 0, 11) || !in(b, 0, 11) || !in(first, 0, 1)) return refuse(BAD);
        if (edits[a] == null || edits[b] == null) return refuse(NOTHING);
        if (edits[a].from != edits[b].from) return refuse(STUCK);
        return keepOrFull(edit, overOf(edits[a], edits[b], first));
    }

    int turned(int edit, int a, int client) {
        if (!in(edit, 0, 11) || !in(a, 0, 11) || !in(client, 0, 3)) return refuse(BAD);
        if (edits[a] == null) return refuse(NOTHING);
        if (edits[a].from != clients[client].text.size()) return refuse(STUCK);
        return keepOrFull(edit, turnedOf(edits[a], clients[client].text));
    }

    int differ(int a, int b) {
        if (!in(a, 0, 11) || !in(b, 0, 11)) return refuse(BAD);
        if (edits[a] == null || edits[b] == null) return refuse(NOTHING);
        List<Part> x = edits[a].parts(), y = edits[b].parts();
        for (int i = 0; i < x.size() && i < y.size(); i++) if (!x.get(i).equals(y.get(i))) return i;
        return x.size() == y.size() ? -1 : Math.min(x.size(), y.size());
    }

    boolean tooLong(Cl c, Ed e) {
        int then = e.to();
        return then > 60 && then > c.text.size();
    }

    int does(int client, int edit) {
        if (!in(client, 0, 3) || !in(edit, 0, 11)) return refuse(BAD);
        if (edits[edit] == null) return refuse(NOTHING);
        Cl c = clients[client];
        if (edits[edit].from != c.text.size()) return refuse(STUCK);
        if (tooLong(c, edits[edit])) return refuse(FULL);
        c.done(edits[edit]);
        return c.text.size();
    }

    int insert(int client, int place, int letter, int marks) {
        if (!in(client, 0, 3) || !in(place, 0, clients[client].text.size()) || !in(letter, 0, 25) || !in(marks, 0, 15)) return refuse(BAD);
        Cl c = clients[client];
        if (c.text.size() + 1 > 60) return refuse(FULL);
        Ed e = new Ed(c.text.size());
        e.gaps.get(place).add(new Sign(letter, marks));
        c.done(e);
        return c.text.size();
    }

    boolean stretch(int client, int place, int n) {
        return in(client, 0, 3) && n >= 1 && place >= 0 && (long) place + n <= clients[client].text.size();
    }

    int cut(int client, int place, int n) {
        if (!stretch(client, place, n)) return refuse(BAD);
        Cl c = clients[client];
        Ed e = new Ed(c.text.size());
        Arrays.fill(e.gone, place, place + n, true);
        c.done(e);
        return c.text.size();
    }

    int mark(int client, int place, int n, int bit, int is) {
        if (!stretch(client, place, n) || !in(bit, 0, 3) || !in(is, 0, 1)) return refuse(BAD);
        Cl c = clients[client];
        int otherwise = 0;
        for (int k = place; k < place + n; k++) if ((c.text.get(k).marks & 1 << bit) != 0 != (is == 1)) otherwise++;
        Ed e = new Ed(c.text.size());
        Arrays.fill(is == 1 ? e.on : e.off, place, place + n, 1 << bit);
        c.done(e);
        return otherwise;
    }

    void serveNow(int client) {
        Cl c = clients[client];
        Ed e = c.sentAsItWas;
        for (int r = c.sentFor; r < revisions.size(); r++) e = overOf(e, revisions.get(r), 0);
        server = e.apply(server);
        revisions.add(e);
        by.add(client);
        c.served = true;
    }

    void hearNow(int client) {
        Cl c = clients[client];
        c.hear(revisions.get(c.revision), by.get(c.revision) == client);
    }

    int serve(int client) {
        if (!in(client, 0, 3)) return refuse(BAD);
        if (clients[client].sent == null || clients[client].served) return refuse(STUCK);
        if (revisions.size() == 90) return refuse(FULL);
        serveNow(client);
        return revisions.size();
    }

    int hear(int client) {
        if (!in(client, 0, 3)) return refuse(BAD);
        if (clients[client].revision == revisions.size()) return refuse(STUCK);
        hearNow(client);
        return clients[client].revision;
    }

    int meet() {
        while (true) {
            boolean busy = false;
            for (int c = 0; c < 4; c++) {
                if (clients[c].sent == null || clients[c].served) continue;
                if (revisions.size() == 90) return refuse(FULL);
                serveNow(c);
                busy = true;
            }
            for (int c = 0; c < 4; c++) {
                while (clients[c].revision < revisions.size()) {
                    hearNow(c);
                    busy = true;
                }
            }
            if (!busy) return revisions.size();
        }
    }

    int undo(int client) {
        if (!in(client, 0, 3)) return refuse(BAD);
        Cl c = clients[client];
        if (c.undo.isEmpty()) return refuse(STUCK);
        if (tooLong(c, c.undo.get(c.undo.size() - 1))) return refuse(FULL);
        c.again(c.undo, c.redo);
        return c.undo.size();
    }

    int redo(int client) {
        if (!in(client, 0, 3)) return refuse(BAD);
        Cl c = clients[client];
        if (c.redo.isEmpty()) return refuse(STUCK);
        if (tooLong(c, c.redo.get(c.redo.size() - 1))) return refuse(FULL);
        c.again(c.redo, c.undo);
        return c.redo.size();
    }

    int point(int client, int place, int other) {
        if (!in(client, 0, 3) || !in(place, 0, clients[client].text.size()) || !in(other, 0, clients[client].text.size())) return refuse(BAD);
        clients[client].cursor = place;
        clients[client].otherCursor = other;
        return 1;
    }

    int cursor(int client, int what) {
        if (!in(client, 0, 3) || !in(what, 0, 1)) return refuse(BAD);
        return what == 0 ? clients[client].cursor : clients[client].otherCursor;
    }

    int clientOf(int client, int what) {
        if (!in(client, 0, 3) || !in(what, 0, 6)) return refuse(BAD);
        Cl c = clients[client];
        return new int[] {c.revision, c.sent == null ? 0 : c.sent.parts().size(), c.sent != null && c.served ? 1 : 0,
            c.waits == null ? 0 : c.waits.parts().size(), c.undo.size(), c.redo.size(), revisions.size() - c.revision}[what];
    }

    int takes(int edit, int client, int what) {
        if (!in(edit, 0, 11) || !in(client, 0, 3) || !in(what, 0, 3)) return refuse(BAD);
        Cl c = clients[client];
        Ed e = what == 0 ? c.sent : what == 1 ? c.waits : null;
        List<Ed> list = what == 2 ? c.undo : c.redo;
        if (what >= 2 && !list.isEmpty()) e = list.get(list.size() - 1);
        if (e == null) return refuse(STUCK);
        edits[edit] = e;
        return e.parts().size();
    }

    int revision(int edit, int n) {
        if (!in(edit, 0, 11) || !in(n, 1, revisions.size())) return refuse(BAD);
        edits[edit] = revisions.get(n - 1);
        return by.get(n - 1);
    }

    List<Sign> textOf(int client) {
        return client == 4 ? server : clients[client].text;
    }

    int length(int client) {
        return in(client, 0, 4) ? textOf(client).size() : refuse(BAD);
    }

    int text(int client, int place, int what) {
        if (!in(client, 0, 4) || !in(place, 0, textOf(client).size() - 1) || !in(what, 0, 1)) return refuse(BAD);
        Sign sign = textOf(client).get(place);
        return what == 0 ? sign.letter : sign.marks;
    }

    int apart(int client, int other) {
        if (!in(client, 0, 4) || !in(other, 0, 4)) return refuse(BAD);
        List<Sign> a = textOf(client), b = textOf(other);
        for (int i = 0; i < Math.max(a.size(), b.size()); i++) {
            if (i >= a.size() || i >= b.size() || !a.get(i).equals(b.get(i))) return i;
        }
        return -1;
    }

    int marked(int client, int bit) {
        if (!in(client, 0, 4) || !in(bit, 0, 4)) return refuse(BAD);
        int found = 0;
        for (Sign sign : textOf(client)) {
            boolean fits = bit == 4 ? sign.marks == 0 : (sign.marks >> bit) % 2 == 1;
            if (fits) found |= 1 << sign.letter;
        }
        return found;
    }

    int judge(int client, int s, int n) {
        if (!in(client, 0, 4) || !in(s, 0, 7) || !in(n, 0, 20)) return refuse(BAD);
        if (shelves[s] instanceof Part) return refuse(OTHER);
        if (shelves[s] == null) return refuse(NOTHING);
        long[] told = ((Row) shelves[s]).cells;
        if (told.length < 2 * n) return refuse(BAD);
        List<Sign> text = textOf(client);
        for (int i = 0; i < n; i++) {
            if (i >= text.size()) return i;
            if (text.get(i).letter != told[2 * i] || text.get(i).marks != told[2 * i + 1]) return i;
        }
        return text.size() > n ? n : -1;
    }

    int draw(int n) {
        seed = seed * 1103515245 + 12345;
        return (int) ((seed & 0xffff0000L) >> 16) % n;
    }

    int days(int n) {
        if (!in(n, 1, 60)) return refuse(BAD);
        int busy = 0;
        int[] before = refusals.clone();
        for (int d = 0; d < n; d++) {
            int c = draw(4);
            int what = draw(8);
            int size = clients[c].text.size();
            int answer = -1;
            if (what <= 2 && size < 60) {
                int letter = draw(26);
                answer = insert(c, draw(size + 1), letter, 0);
            }
            if (what == 3 && size > 0) answer = cut(c, draw(size), 1);
            if (what == 4 && size > 0) {
                int place = draw(size);
                answer = mark(c, place, 1, draw(4), 1);
            }
            if (what == 5) answer = undo(c);
            if (what == 6) answer = serve(c);
            if (what == 7) answer = hear(c);
            if (answer >= 0) busy++;
        }
        System.arraycopy(before, 0, refusals, 0, before.length);
        return busy;
    }

    int seed(int v) {
        int ahead = seed;
        seed = v;
        return ahead;
    }

    void takeFrom(Model m) {
        server = new ArrayList<>(m.server);
        revisions = new ArrayList<>(m.revisions);
        by = new ArrayList<>(m.by);
        for (int c = 0; c < 4; c++) clients[c] = m.clients[c].copy();
        seed = m.seed;
    }

    int image() {
        kept = new Model();
        kept.takeFrom(this);
        return 1;
    }

    int back() {
        if (kept == null) return refuse(STUCK);
        takeFrom(kept);
        return 1;
    }

    int status(int what) {
        int n = 0;
        if (what == 0) return revisions.size();
        if (what == 1) {
            for (Cl c : clients) n += c.text.equals(server) ? 1 : 0;
            return n;
        }
        if (what == 2) {
            for (Ed e : edits) n += e != null ? 1 : 0;
            return n;
        }
        if (what == 3) {
            for (int c = 0; c <= 4; c++) n += textOf(c).size();
            return n;
        }
        if (what == 4) {
            for (Cl c : clients) n += c.sent != null ? 1 : 0;
            return n;
        }
        if (what == 5) return tape.size();
        if (what == 6) return seed;
        if (what == 7) {
            for (Object o : shelves) n += o != null ? 1 : 0;
            return n;
        }
        return in(what, 12, 16) ? refusals[what - 12] : -1;
    }
}
