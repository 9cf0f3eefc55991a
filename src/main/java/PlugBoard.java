import java.util.Arrays;
import java.util.NoSuchElementException;

/** A board on which parts are plugged; things are made of them, live in scopes, and end. */
public final class PlugBoard {
    public static final int NONE = -1;

    private static final int RING = -2;
    private static final int BROKEN = -3;
    private static final int FULL = -4;
    private static final int VALUE_THERE = 1;
    private static final int NOT_ENOUGH = -2;

    private static final int MOST_PARTS = 12;
    private static final int MOST_NEEDS = 4;
    private static final int MOST_SLOTS = MOST_PARTS * MOST_NEEDS;
    private static final int MOST_BREAKS = 9;
    private static final int MOST_DEPTH = 4;
    private static final int MOST_THINGS = 60;
    private static final int MOST_BYTES = 600;
    private static final int MOST_UNDONE = 8;
    private static final int MOST_IMAGES = 3;
    private static final int MOST_LOOSENED = 3;
    // Every thing may be reckoned, every part be on the way behind them, and one be there twice.
    private static final int MOST_WHY = MOST_THINGS + MOST_PARTS + 1;

    private static final int JUST = 0;
    private static final int ADD = 1;
    private static final int MUL = 2;
    private static final int MAX = 3;
    private static final int MIN = 4;
    private static final int SUB = 5;

    private static final int SPAN_BOARD = 0;
    private static final int SPAN_SCOPE = 1;
    private static final int SPAN_EACH = 2;

    private final Paper paper = new Paper();
    private final Board board;
    private final Maker maker;
    // What would be is tried out here, so that a question leaves the board alone.
    private final Board trial;
    private final Maker trialMaker;
    private final Plan plan;
    private final Past past = new Past();
    private final Board[] keptBoards = new Board[MOST_IMAGES];
    private final Paper[] keptPapers = new Paper[MOST_IMAGES];

    public PlugBoard() {
        Parts none = new Parts();
        board = new Board(none);
        maker = new Maker(board);
        trial = new Board(none);
        trialMaker = new Maker(trial);
        plan = new Plan(none);
    }

    public int type(long eight) {
        return paper.append(eight);
    }

    public int read() {
        Reader reader = new Reader(paper);
        reader.readAll();
        paper.clear(reader.fault, reader.place);
        if (reader.fault != 0) {
            return NONE;
        }
        board.reset(reader.parts);
        past.clear();
        return board.parts.count;
    }

    public int fault(boolean place) {
        return place ? paper.place : paper.fault;
    }

    // ---- acts

    public int enter() {
        if (board.depth >= MOST_DEPTH) {
            return NONE;
        }
        past.keep(board);
        board.depth++;
        return board.depth;
    }

    public int leave() {
        past.keep(board);
        return board.leaveScope();
    }

    public boolean stand(int part, int by) {
        if (!board.parts.holds(part) || !board.parts.holds(by)) {
            return false;
        }
        int standIn = by == part ? NONE : by;
        if (board.standInAt(part, board.depth) == standIn) {
            return false;
        }
        past.keep(board);
        board.setStandIn(part, standIn);
        return true;
    }

    public int ask(int part) {
        if (!board.parts.holds(part)) {
            return NONE;
        }
        past.keep(board);
        return maker.askFor(part);
    }

    public int value(int thing) {
        if (!board.things.holds(thing)) {
            return NONE;
        }
        past.keep(board);
        return maker.reckonFor(thing);
    }

    public int undo() {
        return past.giveBack(board);
    }

    // ---- what there is

    public int count(int what) {
        switch (what) {
            case 0:
                return board.parts.count;
            case 1:
                return board.depth;
            case 2:
                return board.things.count;
            case 3:
                return board.things.countValued();
            case 4:
                return board.countMade();
            case 5:
                return board.countStandIns();
            case 6:
                return past.count;
            case 7:
                return paper.length;
            case 8:
                return board.told.countBad(board.parts);
            case 9:
                return board.told.whyCount;
            case 10:
                return board.told.whyKind;
            default:
                return NONE;
        }
    }

    public int part(int part, int what) throws NoSuchElementException {
        Parts parts = board.parts;
        if (!parts.holds(part)) {
            throw new NoSuchElementException("no such part");
        }
        switch (what) {
            case 0:
                return parts.act[part];
            case 1:
                return parts.number[part];
            case 2:
                return parts.needCount[part];
            case 3:
                return parts.span[part];
            case 4:
                return parts.breaks[part];
            case 5:
                return parts.bad[part] ? 1 : 0;
            case 6:
                return board.made[part];
            case 7:
                return parts.lazyBits[part];
            case 8:
                return board.things.countOf(part);
            default:
                throw new NoSuchElementException("nothing such of a part");
        }
    }

    public int need(int part, int k) {
        return board.parts.needAt(part, k);
    }

    public int thing(int thing, int what) throws NoSuchElementException {
        Things things = board.things;
        if (!things.holds(thing)) {
            throw new NoSuchElementException("no such thing");
        }
        switch (what) {
            case 0:
                return things.part[thing];
            case 1:
                return things.scope[thing];
            case 2:
                return things.valued[thing] ? 1 : 0;
            case 3:
                return things.value[thing];
            case 4:
                return things.countOwned(thing);
            default:
                throw new NoSuchElementException("nothing such of a thing");
        }
    }

    public int has(int thing, int k) {
        return board.things.ownedAt(thing, k);
    }

    public int stands(int part, int scope) {
        if (!board.parts.holds(part) || scope < 0 || scope > board.depth) {
            return NONE;
        }
        return board.resolve(part, scope);
    }

    public int why(int k) {
        return board.told.whyAt(k);
    }

    public int ended(int k, boolean bad) {
        return bad ? board.told.badAt(board.parts, k) : board.told.endedAt(k);
    }

    // ---- what would be

    public int start(int k) {
        plan.study(board.parts);
        return pick(plan.start, plan.startCount, k);
    }

    public int loop(int k) {
        plan.study(board.parts);
        return pick(plan.loop, plan.loopCount, k);
    }

    public int needs(int part, boolean lazy) {
        if (!board.parts.holds(part)) {
            return NONE;
        }
        plan.study(board.parts);
        return plan.neededBy(part, lazy);
    }

    public int would(int part, int what) {
        if (!board.parts.holds(part) || what < 0 || what > 1) {
            return NONE;
        }
        trial.copyFrom(board);
        int answer = trialMaker.askFor(part);
        return what == 0 ? trial.things.count - board.things.count : answer;
    }

    public int worth(int part) {
        if (!board.parts.holds(part)) {
            return 0;
        }
        trial.copyFrom(board);
        int thing = trialMaker.askFor(part);
        if (!trial.things.holds(thing) || trialMaker.reckonFor(thing) != VALUE_THERE) {
            return 0;
        }
        return trial.things.value[thing];
    }

    public int deep() {
        plan.study(board.parts);
        return plan.longestRow();
    }

    public int wave(int part) {
        if (!board.parts.holds(part)) {
            return NONE;
        }
        plan.study(board.parts);
        return plan.wave[part];
    }

    public int lost(int part) {
        if (!board.parts.holds(part)) {
            return NONE;
        }
        plan.study(board.parts);
        return plan.lostWith(part);
    }

    public int looser(int k) {
        plan.study(board.parts);
        return plan.loosenedAt(k);
    }

    // ---- kept

    public boolean image(int k) {
        if (k < 0 || k >= MOST_IMAGES) {
            return false;
        }
        if (keptBoards[k] == null) {
            keptBoards[k] = new Board(board.parts);
        }
        if (keptPapers[k] == null) {
            keptPapers[k] = new Paper();
        }
        keptBoards[k].copyFrom(board);
        keptPapers[k].copyFrom(paper);
        return true;
    }

    public boolean again(int k) {
        if (k < 0 || k >= MOST_IMAGES || keptBoards[k] == null || keptPapers[k] == null) {
            return false;
        }
        board.copyFrom(keptBoards[k]);
        paper.copyFrom(keptPapers[k]);
        past.clear();
        return true;
    }

    private static int pick(int[] row, int count, int k) {
        if (k == NONE) {
            return count;
        }
        return k >= 0 && k < count && k < row.length ? row[k] : NONE;
    }

    /** The text that is typed, and the fault of the latest reading. */
    private static final class Paper {
        private final byte[] bytes = new byte[MOST_BYTES];
        private int length = 0;
        private int fault = 0;
        private int place = NONE;

        int append(long eight) {
            int more = 0;
            while (more < 8 && byteOf(eight, more) != 0) {
                more++;
            }
            if (length + more > MOST_BYTES) {
                return NONE;
            }
            for (int i = 0; i < more; i++) {
                bytes[length + i] = byteOf(eight, i);
            }
            length += more;
            return length;
        }

        private static byte byteOf(long eight, int i) {
            return (byte) (eight >>> (56 - 8 * i));
        }

        void clear(int newFault, int newPlace) {
            length = 0;
            fault = newFault;
            place = newPlace;
        }

        void copyFrom(Paper other) {
            System.arraycopy(other.bytes, 0, bytes, 0, other.length);
            length = other.length;
            fault = other.fault;
            place = other.place;
        }
    }

    /** Cuts the text into tokens, one at a time. */
    private static final class Tokens {
        private static final int END = 0;
        private static final int WORD = 1;
        private static final int NUMBER = 2;
        private static final int SEMICOLON = 3;
        private static final int MINUS = 4;
        private static final int STRANGE = 5;
        private static final int MOST_DIGITS = 3;

        private final byte[] bytes;
        private final int length;
        private int kind = END;
        private int from = 0;
        private int to = 0;
        private int number = 0;

        Tokens(Paper paper) {
            bytes = paper.bytes;
            length = paper.length;
        }

        void advance() {
            from = to;
            while (from < length && (bytes[from] == ' ' || bytes[from] == '\n')) {
                from++;
            }
            to = from;
            if (from >= length) {
                kind = END;
            } else if (bytes[from] >= 'a' && bytes[from] <= 'z') {
                cutWord();
            } else if (bytes[from] >= '0' && bytes[from] <= '9') {
                cutNumber();
            } else {
                to = from + 1;
                kind = bytes[from] == ';' ? SEMICOLON : bytes[from] == '-' ? MINUS : STRANGE;
            }
        }

        private void cutWord() {
            while (to < length && bytes[to] >= 'a' && bytes[to] <= 'z') {
                to++;
            }
            kind = WORD;
        }

        private void cutNumber() {
            number = 0;
            while (to < length && bytes[to] >= '0' && bytes[to] <= '9') {
                number = number * 10 + (bytes[to] - '0');
                to++;
            }
            kind = to - from <= MOST_DIGITS ? NUMBER : STRANGE;
        }

        boolean isWord(String word) {
            if (kind != WORD || to - from != word.length()) {
                return false;
            }
            for (int i = 0; i < word.length(); i++) {
                if (bytes[from + i] != word.charAt(i)) {
                    return false;
                }
            }
            return true;
        }

        /** Goes on behind the token if it is of that kind. */
        boolean take(int wanted) {
            if (kind != wanted) {
                return false;
            }
            advance();
            return true;
        }

        /** Goes on behind the token if it is that word. */
        boolean takeWord(String word) {
            if (!isWord(word)) {
                return false;
            }
            advance();
            return true;
        }
    }

    /** Reads parts out of the text; a method that answers false stands at the token that can not be. */
    private static final class Reader {
        private static final int FAULT_TOKEN = 1;
        private static final int FAULT_NUMBER = 2;
        private static final int FAULT_FIFTH_NEED = 3;
        private static final int FAULT_MANY_PARTS = 4;
        private static final int FAULT_NO_PART = 5;

        private final Tokens tokens;
        private final Parts parts = new Parts();
        // Where each part is first told as a need, whichever part needs it.
        private final int[] firstNeeded = new int[MOST_PARTS];
        private int partsTold = 0;
        private int part = 0;
        private int needsTold = 0;
        private int fault = 0;
        private int place = NONE;

        Reader(Paper paper) {
            tokens = new Tokens(paper);
            Arrays.fill(firstNeeded, NONE);
        }

        void readAll() {
            tokens.advance();
            // Each round takes a token at least, and there are no more tokens than bytes.
            for (int round = 0; round < MOST_BYTES && tokens.kind != Tokens.END; round++) {
                if (!readPart()) {
                    fault = FAULT_TOKEN;
                    place = tokens.from;
                    return;
                }
            }
            noteStrangeNeeds();
            if (fault == 0) {
                parts.count = Math.min(partsTold, MOST_PARTS);
            }
        }

        private boolean readPart() {
            int at = tokens.from;
            if (!tokens.takeWord("part")) {
                return false;
            }
            if (partsTold >= MOST_PARTS) {
                note(FAULT_MANY_PARTS, at);
            }
            // A 13th part is a fault for sure, so it may spoil the row of the 12th: no fault is told by rows.
            part = Math.min(partsTold, MOST_PARTS - 1);
            partsTold++;
            needsTold = 0;
            if (!readAct() || !readNumber()) {
                return false;
            }
            for (int round = 0; round < MOST_BYTES; round++) {
                if (tokens.take(Tokens.SEMICOLON)) {
                    return true;
                }
                if (!readClause()) {
                    return false;
                }
            }
            return false;
        }

        private boolean readAct() {
            int act = actOfToken();
            if (act == NONE) {
                return false;
            }
            parts.act[part] = act;
            tokens.advance();
            return true;
        }

        private int actOfToken() {
            if (tokens.isWord("just")) {
                return JUST;
            }
            if (tokens.isWord("add")) {
                return ADD;
            }
            if (tokens.isWord("mul")) {
                return MUL;
            }
            if (tokens.isWord("max")) {
                return MAX;
            }
            if (tokens.isWord("min")) {
                return MIN;
            }
            return tokens.isWord("sub") ? SUB : NONE;
        }

        private boolean readNumber() {
            boolean minus = tokens.take(Tokens.MINUS);
            if (tokens.kind != Tokens.NUMBER) {
                return false;
            }
            parts.number[part] = minus ? -tokens.number : tokens.number;
            tokens.advance();
            return true;
        }

        private boolean readClause() {
            if (tokens.takeWord("span")) {
                return readSpan();
            }
            if (tokens.takeWord("needs")) {
                return readNeeds(false);
            }
            if (tokens.takeWord("lazy")) {
                return readNeeds(true);
            }
            if (tokens.takeWord("breaks")) {
                return readBreaks();
            }
            if (!tokens.takeWord("bad")) {
                return false;
            }
            parts.bad[part] = true;
            return true;
        }

        private boolean readSpan() {
            int span = tokens.isWord("board") ? SPAN_BOARD
                    : tokens.isWord("scope") ? SPAN_SCOPE
                    : tokens.isWord("each") ? SPAN_EACH : NONE;
            if (span == NONE) {
                return false;
            }
            parts.span[part] = span;
            tokens.advance();
            return true;
        }

        private boolean readNeeds(boolean lazy) {
            if (tokens.kind != Tokens.NUMBER) {
                return false;
            }
            for (int round = 0; round < MOST_BYTES && tokens.kind == Tokens.NUMBER; round++) {
                addNeed(lazy);
                tokens.advance();
            }
            return true;
        }

        private void addNeed(boolean lazy) {
            int needed = tokens.number;
            if (needed < 0 || needed >= MOST_PARTS) {
                note(FAULT_NUMBER, tokens.from);
            } else if (firstNeeded[needed] == NONE) {
                firstNeeded[needed] = tokens.from;
            }
            if (needsTold >= MOST_NEEDS) {
                note(FAULT_FIFTH_NEED, tokens.from);
            } else {
                parts.addNeed(part, needed, lazy);
            }
            needsTold++;
        }

        private boolean readBreaks() {
            if (tokens.kind != Tokens.NUMBER) {
                return false;
            }
            if (tokens.number > MOST_BREAKS) {
                note(FAULT_NUMBER, tokens.from);
            }
            parts.breaks[part] = tokens.number;
            tokens.advance();
            return true;
        }

        /** Which needs are no parts is known only when all parts are told. */
        private void noteStrangeNeeds() {
            for (int needed = partsTold; needed < MOST_PARTS; needed++) {
                if (firstNeeded[needed] != NONE) {
                    note(FAULT_NO_PART, firstNeeded[needed]);
                }
            }
        }

        private void note(int newFault, int at) {
            if (fault == 0 || at < place || (at == place && newFault < fault)) {
                fault = newFault;
                place = at;
            }
        }
    }

    /** The parts as told; they never change once they are read, so boards may share them. */
    private static final class Parts {
        private int count = 0;
        private final int[] act = new int[MOST_PARTS];
        private final int[] number = new int[MOST_PARTS];
        private final int[] span = new int[MOST_PARTS];
        private final int[] breaks = new int[MOST_PARTS];
        private final boolean[] bad = new boolean[MOST_PARTS];
        private final int[] needCount = new int[MOST_PARTS];
        private final int[] lazyBits = new int[MOST_PARTS];
        private final int[] need = new int[MOST_SLOTS];

        boolean holds(int part) {
            return part >= 0 && part < count;
        }

        void addNeed(int part, int needed, boolean lazy) {
            int k = needCount[part];
            if (k >= MOST_NEEDS) {
                return;
            }
            need[part * MOST_NEEDS + k] = needed;
            if (lazy) {
                lazyBits[part] |= 1 << k;
            }
            needCount[part] = k + 1;
        }

        int needAt(int part, int k) {
            if (!holds(part) || k < 0 || k >= needCount[part]) {
                return NONE;
            }
            return need[part * MOST_NEEDS + k];
        }

        boolean isEager(int part, int k) {
            return (lazyBits[part] & (1 << k)) == 0;
        }

        /** The needs of a part as bits, but for eager ones that are loosened (bits of slots). */
        int needBits(int part, boolean lazyToo, long loosened) {
            int bits = 0;
            for (int k = 0; k < needCount[part]; k++) {
                int slot = part * MOST_NEEDS + k;
                boolean wanted = lazyToo || isEager(part, k);
                if (wanted && (loosened & (1L << slot)) == 0) {
                    bits |= 1 << need[slot];
                }
            }
            return bits;
        }
    }

    /** The things that live, in the order in which they were made. */
    private static final class Things {
        private int count = 0;
        private final int[] part = new int[MOST_THINGS];
        private final int[] scope = new int[MOST_THINGS];
        private final boolean[] valued = new boolean[MOST_THINGS];
        private final int[] value = new int[MOST_THINGS];
        private final int[] owned = new int[MOST_THINGS * MOST_NEEDS];
        private final int[] renamed = new int[MOST_THINGS];

        boolean holds(int thing) {
            return thing >= 0 && thing < count;
        }

        boolean isFull() {
            return count >= MOST_THINGS;
        }

        int find(int ofPart, int inScope) {
            for (int thing = 0; thing < count; thing++) {
                if (part[thing] == ofPart && scope[thing] == inScope) {
                    return thing;
                }
            }
            return NONE;
        }

        /** A thing lives, with the things of its needs, which stand in a row from a place on. */
        int add(int ofPart, int inScope, int[] row, int base) {
            if (count >= MOST_THINGS) {
                return FULL;
            }
            int thing = count;
            part[thing] = ofPart;
            scope[thing] = inScope;
            valued[thing] = false;
            value[thing] = 0;
            for (int k = 0; k < MOST_NEEDS; k++) {
                boolean inRow = base >= 0 && base + k < row.length;
                owned[thing * MOST_NEEDS + k] = inRow ? row[base + k] : NONE;
            }
            count++;
            return thing;
        }

        int ownedAt(int thing, int k) {
            if (!holds(thing) || k < 0 || k >= MOST_NEEDS) {
                return NONE;
            }
            return owned[thing * MOST_NEEDS + k];
        }

        void setOwned(int thing, int k, int needed) {
            if (holds(thing) && k >= 0 && k < MOST_NEEDS) {
                owned[thing * MOST_NEEDS + k] = needed;
            }
        }

        void setValue(int thing, int reckoned) {
            if (holds(thing)) {
                valued[thing] = true;
                value[thing] = reckoned;
            }
        }

        int countOwned(int thing) {
            int owns = 0;
            for (int k = 0; k < MOST_NEEDS; k++) {
                if (ownedAt(thing, k) != NONE) {
                    owns++;
                }
            }
            return owns;
        }

        int countValued() {
            int those = 0;
            for (int thing = 0; thing < count; thing++) {
                if (valued[thing]) {
                    those++;
                }
            }
            return those;
        }

        int countOf(int ofPart) {
            int those = 0;
            for (int thing = 0; thing < count; thing++) {
                if (part[thing] == ofPart) {
                    those++;
                }
            }
            return those;
        }

        /** Those that stay close up, and the things that they own are known by their new numbers. */
        void removeScope(int left) {
            int stay = 0;
            for (int thing = 0; thing < count; thing++) {
                renamed[thing] = scope[thing] == left ? NONE : stay;
                if (scope[thing] != left) {
                    stay++;
                }
            }
            for (int thing = 0; thing < count; thing++) {
                if (renamed[thing] != NONE) {
                    move(thing, renamed[thing]);
                }
            }
            count = stay;
        }

        private void move(int from, int to) {
            part[to] = part[from];
            scope[to] = scope[from];
            valued[to] = valued[from];
            value[to] = value[from];
            for (int k = 0; k < MOST_NEEDS; k++) {
                int needed = owned[from * MOST_NEEDS + k];
                owned[to * MOST_NEEDS + k] = holds(needed) ? renamed[needed] : NONE;
            }
        }

        void copyFrom(Things other) {
            count = other.count;
            System.arraycopy(other.part, 0, part, 0, count);
            System.arraycopy(other.scope, 0, scope, 0, count);
            System.arraycopy(other.valued, 0, valued, 0, count);
            System.arraycopy(other.value, 0, value, 0, count);
            System.arraycopy(other.owned, 0, owned, 0, count * MOST_NEEDS);
        }
    }

    /** What is told of the latest refusal, and of the latest scope that was left. */
    private static final class Told {
        private int whyKind = 0;
        private int whyCount = 0;
        private final int[] why = new int[MOST_WHY];
        private int endedCount = 0;
        private final int[] ended = new int[MOST_THINGS];

        void clear() {
            whyKind = 0;
            whyCount = 0;
            endedCount = 0;
        }

        void tellWhy(int kind, int[] row, int count) {
            whyKind = kind;
            whyCount = Math.min(count, Math.min(row.length, MOST_WHY));
            System.arraycopy(row, 0, why, 0, whyCount);
        }

        int whyAt(int k) {
            return k >= 0 && k < whyCount ? why[k] : NONE;
        }

        void tellEnded(Things things, int scope) {
            endedCount = 0;
            for (int thing = things.count - 1; thing >= 0; thing--) {
                if (things.scope[thing] == scope) {
                    ended[endedCount] = things.part[thing];
                    endedCount++;
                }
            }
        }

        int endedAt(int k) {
            return k >= 0 && k < endedCount ? ended[k] : NONE;
        }

        int badAt(Parts parts, int k) {
            int before = 0;
            for (int i = 0; i < endedCount; i++) {
                if (parts.bad[ended[i]]) {
                    if (before == k) {
                        return ended[i];
                    }
                    before++;
                }
            }
            return NONE;
        }

        int countBad(Parts parts) {
            int those = 0;
            for (int i = 0; i < endedCount; i++) {
                if (parts.bad[ended[i]]) {
                    those++;
                }
            }
            return those;
        }

        void copyFrom(Told other) {
            whyKind = other.whyKind;
            whyCount = other.whyCount;
            System.arraycopy(other.why, 0, why, 0, whyCount);
            endedCount = other.endedCount;
            System.arraycopy(other.ended, 0, ended, 0, endedCount);
        }
    }

    /** All that acts change. */
    private static final class Board {
        private Parts parts;
        private int depth = 0;
        private final int[] standIns = new int[(MOST_DEPTH + 1) * MOST_PARTS];
        private final int[] made = new int[MOST_PARTS];
        private final Things things = new Things();
        private final Told told = new Told();

        Board(Parts parts) {
            this.parts = parts;
            Arrays.fill(standIns, NONE);
        }

        void reset(Parts newParts) {
            parts = newParts;
            depth = 0;
            Arrays.fill(standIns, NONE);
            Arrays.fill(made, 0);
            things.count = 0;
            told.clear();
        }

        void copyFrom(Board other) {
            parts = other.parts;
            depth = other.depth;
            System.arraycopy(other.standIns, 0, standIns, 0, standIns.length);
            System.arraycopy(other.made, 0, made, 0, MOST_PARTS);
            things.copyFrom(other.things);
            told.copyFrom(other.told);
        }

        int leaveScope() {
            told.tellEnded(things, depth);
            things.removeScope(depth);
            for (int part = 0; part < MOST_PARTS; part++) {
                setStandIn(part, NONE);
            }
            if (depth > 0) {
                depth--;
            }
            return told.endedCount;
        }

        int standInAt(int part, int scope) {
            return standIns[scope * MOST_PARTS + part];
        }

        void setStandIn(int part, int by) {
            standIns[depth * MOST_PARTS + part] = by;
        }

        /** The part that stands for a part in a scope, or the part itself. */
        int resolve(int part, int scope) {
            for (int around = scope; around >= 0; around--) {
                int by = standInAt(part, around);
                if (by != NONE) {
                    return by;
                }
            }
            return part;
        }

        int countStandIns() {
            int those = 0;
            for (int by : standIns) {
                if (by != NONE) {
                    those++;
                }
            }
            return those;
        }

        int countMade() {
            int all = 0;
            for (int often : made) {
                all += often;
            }
            return all;
        }
    }

    /** Makes things on a board and reckons their values. */
    private static final class Maker {
        private final Board board;
        private final Things things;
        // Parts of things that are reckoned, then, from wayFrom on, those on the way:
        // when something can not be, the row is the why.
        private final int[] row = new int[MOST_WHY];
        private int rowCount = 0;
        private int wayFrom = 0;
        private long reckoned = 0;
        // The things of needs of each part on the way, until its own thing lives.
        private final int[] gathered = new int[MOST_SLOTS];

        Maker(Board board) {
            this.board = board;
            this.things = board.things;
        }

        int askFor(int part) {
            begin();
            return tell(fetch(part, board.depth));
        }

        int reckonFor(int thing) {
            begin();
            return tell(reckon(thing));
        }

        private void begin() {
            rowCount = 0;
            wayFrom = 0;
            reckoned = 0;
        }

        private int tell(int answer) {
            if (answer < NONE) {
                board.told.tellWhy(answer, row, rowCount);
            }
            return answer;
        }

        private void push(int part) {
            if (rowCount < row.length) {
                row[rowCount] = part;
                rowCount++;
            }
        }

        private void pop() {
            if (rowCount > 0) {
                rowCount--;
            }
        }

        private int refuse(int part, int kind) {
            push(part);
            return kind;
        }

        private int fetch(int part, int scope) {
            int resolved = board.resolve(part, scope);
            int span = board.parts.span[resolved];
            int home = span == SPAN_BOARD ? 0 : scope;
            int there = span == SPAN_EACH ? NONE : things.find(resolved, home);
            return there != NONE ? there : make(resolved, home);
        }

        private int make(int part, int home) {
            int level = rowCount - wayFrom;
            // With all parts on the way, any part is on it: so the recursion is at most that deep.
            if (level >= MOST_PARTS || isOnWay(part)) {
                return refuse(part, RING);
            }
            if (things.isFull()) {
                return refuse(part, FULL);
            }
            board.made[part]++;
            int turn = board.made[part];
            push(part);
            int trouble = gather(part, home, level * MOST_NEEDS);
            if (trouble < NONE) {
                return trouble;
            }
            if (turn == board.parts.breaks[part]) {
                return BROKEN;
            }
            if (things.isFull()) {
                return FULL;
            }
            pop();
            return things.add(part, home, gathered, level * MOST_NEEDS);
        }

        /** Asks for the eager needs of a part; answers what can not be, or NONE. */
        private int gather(int part, int home, int base) {
            Parts parts = board.parts;
            for (int k = 0; k < MOST_NEEDS; k++) {
                int thing = NONE;
                if (k < parts.needCount[part] && parts.isEager(part, k)) {
                    thing = fetch(parts.need[part * MOST_NEEDS + k], home);
                    if (thing < 0) {
                        return thing;
                    }
                }
                gathered[base + k] = thing;
            }
            return NONE;
        }

        private boolean isOnWay(int part) {
            for (int i = wayFrom; i < rowCount; i++) {
                if (row[i] == part) {
                    return true;
                }
            }
            return false;
        }

        private int reckon(int thing) {
            if (!things.holds(thing)) {
                return NONE;
            }
            if (things.valued[thing]) {
                return VALUE_THERE;
            }
            int part = things.part[thing];
            long bit = 1L << thing;
            // With all things reckoned, any thing is: so the recursion is at most that deep.
            if (rowCount >= MOST_THINGS || (reckoned & bit) != 0) {
                return refuse(part, RING);
            }
            push(part);
            reckoned |= bit;
            int result = board.parts.number[part];
            int act = board.parts.act[part];
            int asked = act == JUST ? 0 : board.parts.needCount[part];
            for (int k = 0; k < asked; k++) {
                int needed = needOf(thing, k);
                int answer = needed < 0 ? needed : reckon(needed);
                if (answer < 0) {
                    return answer;
                }
                result = apply(act, result, things.value[needed]);
            }
            pop();
            reckoned &= ~bit;
            things.setValue(thing, result);
            return VALUE_THERE;
        }

        /** The thing of a need, asked for if it was not yet. */
        private int needOf(int thing, int k) {
            int there = things.ownedAt(thing, k);
            if (there != NONE) {
                return there;
            }
            wayFrom = rowCount;
            int needed = fetch(board.parts.needAt(things.part[thing], k), things.scope[thing]);
            if (needed >= 0) {
                things.setOwned(thing, k, needed);
            }
            return needed;
        }

        private static int apply(int act, int result, int next) {
            switch (act) {
                case ADD:
                    return result + next;
                case MUL:
                    return result * next;
                case MAX:
                    return Math.max(result, next);
                case MIN:
                    return Math.min(result, next);
                case SUB:
                    return result - next;
                default:
                    return result;
            }
        }
    }

    /** What the parts alone tell: start order, waves, the loop, what loosens it. */
    private static final class Plan {
        private static final int UNKNOWN = -3;

        private Parts parts;
        private int startCount = 0;
        private final int[] start = new int[MOST_PARTS];
        private final int[] wave = new int[MOST_PARTS];
        private int loopCount = 0;
        private final int[] loop = new int[MOST_PARTS];
        // The search for the fewest is dear, so it waits until somebody asks.
        private int fewest = UNKNOWN;
        private long loosest = 0;
        private boolean found = false;

        Plan(Parts parts) {
            this.parts = parts;
        }

        void study(Parts told) {
            if (told == parts) {
                return;
            }
            parts = told;
            fewest = UNKNOWN;
            findStart();
            findLoop();
        }

        private void findStart() {
            startCount = 0;
            Arrays.fill(wave, NONE);
            int there = 0;
            for (int round = 0; round < parts.count; round++) {
                int next = leastReady(there);
                if (next == NONE) {
                    return;
                }
                start[startCount] = next;
                startCount++;
                there |= 1 << next;
                wave[next] = waveAbove(parts.needBits(next, false, 0L));
            }
        }

        private int leastReady(int there) {
            for (int part = 0; part < parts.count; part++) {
                boolean waits = (parts.needBits(part, false, 0L) & ~there) != 0;
                if ((there & (1 << part)) == 0 && !waits) {
                    return part;
                }
            }
            return NONE;
        }

        private int waveAbove(int needBits) {
            int above = 0;
            for (int part = 0; part < parts.count; part++) {
                if ((needBits & (1 << part)) != 0) {
                    above = Math.max(above, wave[part] + 1);
                }
            }
            return above;
        }

        private void findLoop() {
            loopCount = 0;
            int can = startable(0L, 0);
            int first = loopEntry(can, 0L);
            int part = first;
            for (int round = 0; round < parts.count && part != NONE; round++) {
                loop[loopCount] = part;
                loopCount++;
                part = behind(stuckSlot(part, can, 0L));
                if (part == first) {
                    return;
                }
            }
        }

        /** Which parts can start, as bits, if some needs are loosened (bits of slots); some are known to. */
        private int startable(long loosened, int known) {
            int can = known;
            for (int round = 0; round < parts.count; round++) {
                int before = can;
                for (int part = 0; part < parts.count; part++) {
                    boolean there = (can & (1 << part)) != 0;
                    if (!there && (parts.needBits(part, false, loosened) & ~can) == 0) {
                        can |= 1 << part;
                    }
                }
                if (can == before) {
                    return can;
                }
            }
            return can;
        }

        /** The first part that comes again on the way from the least that can not start, or NONE. */
        private int loopEntry(int can, long loosened) {
            int part = leastStuck(can);
            int seen = 0;
            for (int round = 0; round <= parts.count && part != NONE; round++) {
                if ((seen & (1 << part)) != 0) {
                    return part;
                }
                seen |= 1 << part;
                part = behind(stuckSlot(part, can, loosened));
            }
            return NONE;
        }

        private int leastStuck(int can) {
            for (int part = 0; part < parts.count; part++) {
                if ((can & (1 << part)) == 0) {
                    return part;
                }
            }
            return NONE;
        }

        /** The first eager need of a part that can not start, as a slot, or NONE. */
        private int stuckSlot(int part, int can, long loosened) {
            for (int k = 0; k < parts.needCount[part]; k++) {
                int slot = part * MOST_NEEDS + k;
                boolean binds = parts.isEager(part, k) && (loosened & (1L << slot)) == 0;
                if (binds && (can & (1 << parts.need[slot])) == 0) {
                    return slot;
                }
            }
            return NONE;
        }

        private int behind(int slot) {
            return slot >= 0 && slot < MOST_SLOTS ? parts.need[slot] : NONE;
        }

        int neededBy(int part, boolean lazyToo) {
            int reached = parts.needBits(part, lazyToo, 0L);
            for (int round = 0; round < parts.count; round++) {
                int before = reached;
                for (int other = 0; other < parts.count; other++) {
                    if ((reached & (1 << other)) != 0) {
                        reached |= parts.needBits(other, lazyToo, 0L);
                    }
                }
                if (reached == before) {
                    return reached;
                }
            }
            return reached;
        }

        int lostWith(int part) {
            int gone = 1 << part;
            for (int round = 0; round < parts.count; round++) {
                int before = gone;
                for (int other = 0; other < parts.count; other++) {
                    if ((parts.needBits(other, false, 0L) & gone) != 0) {
                        gone |= 1 << other;
                    }
                }
                if (gone == before) {
                    return gone;
                }
            }
            return gone;
        }

        int longestRow() {
            if (loopCount > 0) {
                return NONE;
            }
            int longest = 0;
            for (int part = 0; part < parts.count; part++) {
                longest = Math.max(longest, wave[part] + 1);
            }
            return longest;
        }

        int loosenedAt(int k) {
            if (fewest == UNKNOWN) {
                findFewest();
            }
            if (fewest == NOT_ENOUGH || k == NONE) {
                return fewest;
            }
            int before = 0;
            for (int slot = 0; slot < MOST_SLOTS; slot++) {
                if ((loosest & (1L << slot)) != 0) {
                    if (before == k) {
                        return slot;
                    }
                    before++;
                }
            }
            return NONE;
        }

        private void findFewest() {
            found = false;
            loosest = 0;
            for (int most = 0; most <= MOST_LOOSENED; most++) {
                loosen(0L, 0L, 0, most);
                if (found) {
                    fewest = most;
                    return;
                }
            }
            fewest = NOT_ENOUGH;
        }

        /**
         * Each choice must break the loop that is still there, so only its needs are tried; one that was
         * tried is settled behind it, as all choices with it are seen by then.
         */
        private void loosen(long loosened, long settled, int known, int left) {
            int can = startable(loosened, known);
            if (leastStuck(can) == NONE) {
                consider(loosened);
                return;
            }
            int first = left > 0 ? loopEntry(can, loosened) : NONE;
            int part = first;
            long tried = settled;
            for (int round = 0; round < parts.count && part != NONE; round++) {
                int slot = stuckSlot(part, can, loosened);
                if (slot == NONE) {
                    return;
                }
                if ((tried & (1L << slot)) == 0) {
                    loosen(loosened | (1L << slot), tried, can, left - 1);
                }
                tried |= 1L << slot;
                part = behind(slot);
                if (part == first) {
                    return;
                }
            }
        }

        /** Of two rows as long, the one that has the lowest slot in which they differ is less. */
        private void consider(long loosened) {
            long differ = loosened ^ loosest;
            long lowest = differ & -differ;
            if (!found || (loosened & lowest) != 0) {
                loosest = loosened;
                found = true;
            }
        }
    }

    /** Boards as they were ahead of the latest acts. */
    private static final class Past {
        private final Board[] boards = new Board[MOST_UNDONE];
        private int count = 0;
        private int next = 0;

        void keep(Board board) {
            if (boards[next] == null) {
                boards[next] = new Board(board.parts);
            }
            boards[next].copyFrom(board);
            next = next + 1 < MOST_UNDONE ? next + 1 : 0;
            count = Math.min(count + 1, MOST_UNDONE);
        }

        /** The board is as it was ahead of the latest act: how many more are kept, or NONE. */
        int giveBack(Board board) {
            int latest = next > 0 ? next - 1 : MOST_UNDONE - 1;
            if (count == 0 || boards[latest] == null) {
                return NONE;
            }
            board.copyFrom(boards[latest]);
            next = latest;
            count--;
            return count;
        }

        void clear() {
            count = 0;
        }
    }
}
