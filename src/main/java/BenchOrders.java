/** Orders to an instrument as words in a tree; ../shared/DOC.md holds the promises. */
public final class BenchOrders {
    public static final int NONE = -10001, BAD = -10002, NO = -10003, FULL = -10004;

    private static final int NODES_MOST = 16, SUFFIX_MOST = 3, NAME_MOST = 8, TEXT_MOST = 100;
    private static final int HEADER_WORDS = 4, ROW_WORDS = 6;
    private static final int ANSWERS_MOST = 6, FAULTS_MOST = 4, PENDING_MOST = 4, STATES_MOST = 5;
    private static final int NUMBER_MOST = 9999, FIGURES_MOST = 6, BYTE_MOST = 127;
    private static final int BITS_MOST = 15, EVENTS_MOST = 255;

    private static final int BRANCH = 0, VALUE = 1, SLOW_ACT = 3;

    private static final int FINE = 0, CANNOT_STAND = -102, NOT_WANTED = -108, MISSING = -109, NOT_FOUND = -113;
    private static final int OUT_OF_RANGE = -222, FAULT_LOST = -350, ANSWER_LOST = -430;

    private static final int OPC_EVENT = 1, LOSS_EVENT = 8;

    private static final int UNKNOWN = 0, CLS = 1, ESE = 2, SRE = 3, ESR = 4, STB = 5, OPC = 6, RST = 7;

    private static final int TEXT_END = -1;

    private final Text text;
    private final Tree tree;
    private final Unit unit;
    private final State now;
    private final History history;
    private int badCalls = 0;
    private int noCalls = 0;
    private int fullCalls = 0;

    public BenchOrders() {
        text = new Text();
        tree = new Tree();
        unit = new Unit();
        now = new State();
        history = new History();
    }

    // ---- the tree

    public int node(int p, int k, int m, int leftOut) {
        if (!isParent(p) || !isWithin(k, BRANCH, SLOW_ACT) || !isWithin(m, 0, SUFFIX_MOST) || !isWithin(leftOut, 0, 1)) {
            return refuse(BAD);
        }
        if (!text.isName()) {
            return refuse(NO);
        }
        if (now.nodes >= NODES_MOST) {
            return refuse(FULL);
        }
        history.keep(now);
        int n = now.nodes;
        Node made = tree.nodes[n];
        made.parent = p;
        made.kind = k;
        made.most = m;
        made.leftOut = leftOut;
        made.takeName(text);
        now.addNode(k == VALUE ? NUMBER_MOST : 0);
        return n;
    }

    public int range(int n, int a, int b) {
        if (!isValueNode(n) || !isWithin(a, -NUMBER_MOST, NUMBER_MOST) || !isWithin(b, a, NUMBER_MOST)) {
            return refuse(BAD);
        }
        history.keep(now);
        int before = now.low[n];
        now.low[n] = a;
        now.high[n] = b;
        now.lowerNumbers(n);
        return before;
    }

    public int of(int n, int what) {
        if (!isNode(n) || !isWithin(what, 0, 8)) {
            return refuse(BAD);
        }
        return nodeReading(n, what);
    }

    public int value(int n, int s) {
        if (!isValueNode(n) || !isWithin(s, 1, SUFFIX_MOST)) {
            return refuse(BAD);
        }
        return now.numberOf(n, s);
    }

    // ---- messages

    public int type(int c) {
        if (!isWithin(c, 0, BYTE_MOST)) {
            return refuse(BAD);
        }
        if (text.length >= TEXT_MOST) {
            return refuse(FULL);
        }
        text.append(c);
        return text.length;
    }

    public int clear() {
        int before = text.length;
        text.length = 0;
        return before;
    }

    public int sends() {
        history.keep(now);
        unit.startMessage();
        int done = 0;
        // Each ; begins one UNIT more, so a full TEXT of them bounds the count.
        for (int i = 0; i <= TEXT_MOST; i++) {
            int fault = CANNOT_STAND;
            if (unit.read(text)) {
                fault = unit.isCommon ? performCommon() : performOrder();
            }
            if (fault != FINE) {
                now.raise(fault);
                return done;
            }
            done++;
            if (!unit.passSemicolon(text)) {
                return done;
            }
        }
        return done;
    }

    public int finds() {
        if (!unit.readRowAlone(text)) {
            return NONE;
        }
        return tree.find(text, unit.words, now.nodes);
    }

    public int answer() {
        if (now.answers.count == 0) {
            return refuse(NO);
        }
        history.keep(now);
        return now.answers.removeAt(0);
    }

    public int fault() {
        if (now.faults.count == 0) {
            return refuse(NO);
        }
        history.keep(now);
        return now.faults.removeAt(0);
    }

    // ---- status

    public int condition(int b, int v) {
        if (!isWithin(b, 0, 3) || !isWithin(v, 0, 1)) {
            return refuse(BAD);
        }
        history.keep(now);
        int before = (now.conditions >> b) & 1;
        if (before != v) {
            now.turnCondition(1 << b);
        }
        return before;
    }

    public int masks(int what, int v) {
        if (!isWithin(what, 0, 2) || !isWithin(v, 0, BITS_MOST)) {
            return refuse(BAD);
        }
        history.keep(now);
        return now.changeMask(what, v);
    }

    public int edges() {
        history.keep(now);
        int before = now.edges;
        now.edges = 0;
        return before;
    }

    public int finishes(int i) {
        if (!isWithin(i, 0, now.pending.count - 1)) {
            return refuse(BAD);
        }
        history.keep(now);
        now.finish(i);
        return now.pending.count;
    }

    public int state(int what) {
        if (!isWithin(what, 0, 13)) {
            return refuse(BAD);
        }
        return now.reading(what);
    }

    public int answers(int i) {
        return i < 0 ? refuse(BAD) : now.answers.at(i);
    }

    public int faults(int i) {
        return i < 0 ? refuse(BAD) : now.faults.at(i);
    }

    public int pending(int i) {
        return i < 0 ? refuse(BAD) : now.pending.at(i);
    }

    // ---- back

    public int back() {
        if (history.count == 0) {
            return refuse(NO);
        }
        history.restore(now);
        return history.count;
    }

    public int told(int what) {
        if (!isWithin(what, 0, 4)) {
            return refuse(BAD);
        }
        return tally(what);
    }

    public long digest() {
        long h = 2783L;
        for (int what = 0; what <= 4; what++) {
            h = 31L * h + tally(what);
        }
        for (int what = 0; what <= 13; what++) {
            h = 31L * h + now.reading(what);
        }
        for (int n = 0; n < now.nodes && n < NODES_MOST; n++) {
            h = digestNode(h, n);
        }
        h = now.answers.digestFrom(h);
        h = now.faults.digestFrom(h);
        return now.pending.digestFrom(h);
    }

    // ---- parts of the calls

    private int refuse(int why) {
        if (why == BAD) {
            badCalls++;
        } else if (why == NO) {
            noCalls++;
        } else {
            fullCalls++;
        }
        return why;
    }

    private int tally(int what) {
        switch (what) {
            case 0: return badCalls;
            case 1: return noCalls;
            case 2: return fullCalls;
            case 3: return text.length;
            default: return history.count;
        }
    }

    private long digestNode(long start, int n) {
        long h = start;
        for (int what = 0; what <= 8; what++) {
            h = 31L * h + nodeReading(n, what);
        }
        if (isValueNode(n)) {
            for (int s = 1; s <= SUFFIX_MOST; s++) {
                h = 31L * h + now.numberOf(n, s);
            }
        }
        return h;
    }

    private int nodeReading(int n, int what) {
        Node it = tree.nodes[n];
        switch (what) {
            case 0: return it.parent;
            case 1: return it.kind;
            case 2: return it.most;
            case 3: return it.leftOut;
            case 4: return now.low[n];
            case 5: return now.high[n];
            case 6: return it.shortLength;
            case 7: return it.longLength;
            default: return now.timesDone[n];
        }
    }

    private boolean isNode(int n) {
        return n >= 0 && n < now.nodes && n < NODES_MOST;
    }

    private boolean isParent(int n) {
        return isNode(n) && tree.nodes[n].kind == BRANCH;
    }

    private boolean isValueNode(int n) {
        return isNode(n) && tree.nodes[n].kind == VALUE;
    }

    /** Answers the FAULT that ends the MESSAGE, or FINE. */
    private int performCommon() {
        int word = unit.commonWord(text);
        if (!hasForm(word, unit.isQuestion)) {
            return NOT_FOUND;
        }
        int fault = unit.valueFault(word == ESE || word == SRE);
        if (fault != FINE) {
            return fault;
        }
        if (unit.isQuestion) {
            now.reply(now.commonAnswer(word));
        } else {
            now.obeyCommon(word, unit.number);
        }
        return FINE;
    }

    /** Answers the FAULT that ends the MESSAGE, or FINE. */
    private int performOrder() {
        int n = tree.find(text, unit.words, now.nodes);
        if (!isNode(n)) {
            return NOT_FOUND;
        }
        unit.keepBranch();
        boolean isValue = isValueNode(n);
        int fault = unit.valueFault(isValue);
        if (fault != FINE) {
            return fault;
        }
        if (unit.isQuestion) {
            now.reply(isValue ? now.numberOf(n, tree.suffix) : now.timesDone[n]);
        } else if (isValue) {
            now.setNumber(n, tree.suffix, unit.number);
        } else {
            now.act(n, tree.nodes[n].kind == SLOW_ACT);
        }
        return FINE;
    }

    private static boolean hasForm(int word, boolean asQuestion) {
        switch (word) {
            case CLS:
            case RST:
                return !asQuestion;
            case ESR:
            case STB:
                return asQuestion;
            case ESE:
            case SRE:
            case OPC:
                return true;
            default:
                return false;
        }
    }

    private static boolean isWithin(int v, int least, int greatest) {
        return v >= least && v <= greatest;
    }

    private static boolean isCapital(int c) {
        return c >= 'A' && c <= 'Z';
    }

    private static boolean isSmall(int c) {
        return c >= 'a' && c <= 'z';
    }

    private static boolean isLetter(int c) {
        return (c >= 'A' && c <= 'Z') || (c >= 'a' && c <= 'z');
    }

    private static boolean isFigure(int c) {
        return c >= '0' && c <= '9';
    }

    /** THE TEXT, read by positions that may lie behind its end. */
    private static final class Text {
        final byte[] bytes = new byte[TEXT_MOST];
        int length = 0;

        void append(int c) {
            if (length >= 0 && length < TEXT_MOST) {
                bytes[length] = (byte) c;
                length++;
            }
        }

        int byteAt(int i) {
            return i >= 0 && i < length && i < TEXT_MOST ? bytes[i] : TEXT_END;
        }

        int capitalAt(int i) {
            int c = i >= 0 && i < length && i < TEXT_MOST ? bytes[i] : TEXT_END;
            return c >= 'a' && c <= 'z' ? c - 'a' + 'A' : c;
        }

        int pastLetters(int from) {
            int i = from;
            while (i < length && isLetter(byteAt(i))) {
                i++;
            }
            return i;
        }

        int pastCapitals(int from) {
            int i = from;
            while (i < length && isCapital(byteAt(i))) {
                i++;
            }
            return i;
        }

        int pastBlanks(int from) {
            int i = from;
            while (i < length && byteAt(i) == ' ') {
                i++;
            }
            return i;
        }

        boolean isName() {
            int capitals = pastCapitals(0);
            if (capitals == 0 || length > NAME_MOST) {
                return false;
            }
            for (int i = capitals; i < length; i++) {
                if (!isSmall(byteAt(i))) {
                    return false;
                }
            }
            return true;
        }

        /** Whether the letters from start up to end are the word (in capitals), whatever their case. */
        boolean spells(int start, int end, String word) {
            if (end - start != word.length()) {
                return false;
            }
            for (int i = 0; i < word.length(); i++) {
                if (capitalAt(start + i) != word.charAt(i)) {
                    return false;
                }
            }
            return true;
        }
    }

    /** A row of WORDS, kept as places in THE TEXT, which stays while they are used. */
    private static final class Words {
        final int[] starts = new int[ROW_WORDS];
        final int[] lengths = new int[ROW_WORDS];
        final int[] figures = new int[ROW_WORDS];
        int count = 0;

        /** A figure of 0 says that none was told. */
        boolean add(int start, int length, int figure) {
            if (count < 0 || count >= ROW_WORDS) {
                return false;
            }
            starts[count] = start;
            lengths[count] = length;
            figures[count] = figure;
            count++;
            return true;
        }
    }

    /** What a NODE has from its making on; what can change later stands in State. */
    private static final class Node {
        int parent = NONE;
        int kind = BRANCH;
        int most = 0;
        int leftOut = 0;
        int shortLength = 0;
        int longLength = 0;
        final byte[] capitals = new byte[NAME_MOST];

        void takeName(Text text) {
            shortLength = text.pastCapitals(0);
            longLength = text.length;
            for (int i = 0; i < longLength && i < NAME_MOST; i++) {
                capitals[i] = (byte) text.capitalAt(i);
            }
        }

        boolean isFitBy(Text text, int start, int length, int figure) {
            if (figure > most || length > NAME_MOST) {
                return false;
            }
            if (length != shortLength && length != longLength) {
                return false;
            }
            for (int i = 0; i < length; i++) {
                if (text.capitalAt(start + i) != capitals[i]) {
                    return false;
                }
            }
            return true;
        }
    }

    /**
     * The NODES. They are no part of a STATE but for their count: going back only drops the last
     * ones, and a dropped one is never come back to, so its place can be used again.
     */
    private static final class Tree {
        final Node[] nodes = new Node[NODES_MOST];
        final int[] deadEnds = new int[NODES_MOST];
        int count = 1;
        int suffix = 1;

        Tree() {
            for (int n = 0; n < NODES_MOST; n++) {
                nodes[n] = new Node();
            }
        }

        /** FINDING from ROOT: the NODE or NONE; its SUFFIX is left in suffix. */
        int find(Text text, Words words, int nodeCount) {
            count = Math.min(nodeCount, NODES_MOST);
            suffix = 1;
            for (int n = 0; n < NODES_MOST; n++) {
                deadEnds[n] = 0;
            }
            return findFrom(0, text, words, 0, 0);
        }

        private int findFrom(int from, Text text, Words words, int at, int depth) {
            // The same place with the same WORDS left fails again: without this mark a chain of
            // like names would be tried in thousands of ways.
            if (depth > NODES_MOST || ((deadEnds[from] >> at) & 1) != 0) {
                return NONE;
            }
            if (at >= words.count && nodes[from].kind != BRANCH) {
                return from;
            }
            if (at < words.count && at < ROW_WORDS) {
                int found = findByWord(from, text, words, at, depth);
                if (found != NONE) {
                    return found;
                }
            }
            for (int child = from + 1; child < count; child++) {
                if (nodes[child].parent == from && nodes[child].leftOut == 1) {
                    int found = findFrom(child, text, words, at, depth + 1);
                    if (found != NONE) {
                        return found;
                    }
                }
            }
            deadEnds[from] |= 1 << at;
            return NONE;
        }

        private int findByWord(int from, Text text, Words words, int at, int depth) {
            int figure = words.figures[at];
            for (int child = from + 1; child < count; child++) {
                Node it = nodes[child];
                if (it.parent == from && it.isFitBy(text, words.starts[at], words.lengths[at], figure)) {
                    int found = findFrom(child, text, words, at + 1, depth + 1);
                    if (found != NONE) {
                        if (at + 1 == words.count) {
                            suffix = found == child ? Math.max(figure, 1) : 1;
                        }
                        return found;
                    }
                }
            }
            return NONE;
        }
    }

    /** Reads THE TEXT UNIT by UNIT and holds the one that was read last. */
    private static final class Unit {
        final Words words = new Words();
        int at = 0;
        int branchCount = 0;
        boolean isCommon = false;
        int commonStart = 0;
        int commonEnd = 0;
        boolean isQuestion = false;
        boolean hasValue = false;
        int number = 0;

        void startMessage() {
            at = 0;
            branchCount = 0;
        }

        /** The first words of the row stay where they are: the next header is put behind them. */
        void keepBranch() {
            branchCount = Math.max(words.count - 1, 0);
        }

        boolean passSemicolon(Text text) {
            if (text.byteAt(at) != ';') {
                return false;
            }
            at++;
            return true;
        }

        boolean readRowAlone(Text text) {
            at = 0;
            words.count = 0;
            return readWords(text) && text.byteAt(at) == TEXT_END;
        }

        boolean read(Text text) {
            at = text.pastBlanks(at);
            isCommon = text.byteAt(at) == '*';
            boolean isHeader = isCommon ? readCommonHeader(text) : readWordsHeader(text);
            if (!isHeader) {
                return false;
            }
            isQuestion = text.byteAt(at) == '?';
            if (isQuestion) {
                at++;
            }
            return readBehindHeader(text);
        }

        int commonWord(Text text) {
            if (text.spells(commonStart, commonEnd, "CLS")) {
                return CLS;
            }
            if (text.spells(commonStart, commonEnd, "ESE")) {
                return ESE;
            }
            if (text.spells(commonStart, commonEnd, "SRE")) {
                return SRE;
            }
            if (text.spells(commonStart, commonEnd, "ESR")) {
                return ESR;
            }
            if (text.spells(commonStart, commonEnd, "STB")) {
                return STB;
            }
            if (text.spells(commonStart, commonEnd, "OPC")) {
                return OPC;
            }
            return text.spells(commonStart, commonEnd, "RST") ? RST : UNKNOWN;
        }

        int valueFault(boolean takesValue) {
            boolean isWanted = takesValue && !isQuestion;
            if (hasValue && !isWanted) {
                return NOT_WANTED;
            }
            return isWanted && !hasValue ? MISSING : FINE;
        }

        private boolean readCommonHeader(Text text) {
            commonStart = at + 1;
            commonEnd = text.pastLetters(commonStart);
            at = commonEnd;
            return isWithin(commonEnd - commonStart, 1, NAME_MOST);
        }

        private boolean readWordsHeader(Text text) {
            boolean isFromRoot = text.byteAt(at) == ':';
            if (isFromRoot) {
                at++;
            }
            words.count = isFromRoot ? 0 : branchCount;
            return readWords(text);
        }

        private boolean readWords(Text text) {
            for (int i = 0; i < HEADER_WORDS; i++) {
                if (!readWord(text)) {
                    return false;
                }
                if (text.byteAt(at) != ':') {
                    return true;
                }
                at++;
            }
            return false;
        }

        private boolean readWord(Text text) {
            int start = at;
            int end = text.pastLetters(start);
            if (!isWithin(end - start, 1, NAME_MOST)) {
                return false;
            }
            at = end;
            int figure = 0;
            if (isWithin(text.byteAt(at), '1', '9')) {
                figure = text.byteAt(at) - '0';
                at++;
            }
            return words.add(start, end - start, figure);
        }

        private boolean readBehindHeader(Text text) {
            int headerEnd = at;
            at = text.pastBlanks(at);
            hasValue = !isUnitEnd(text);
            if (!hasValue) {
                return true;
            }
            if (at == headerEnd || !readValue(text)) {
                return false;
            }
            at = text.pastBlanks(at);
            return isUnitEnd(text);
        }

        private boolean isUnitEnd(Text text) {
            int c = text.byteAt(at);
            return c == ';' || c == TEXT_END;
        }

        private boolean readValue(Text text) {
            return isLetter(text.byteAt(at)) ? readSwitch(text) : readNumber(text);
        }

        private boolean readSwitch(Text text) {
            int start = at;
            at = text.pastLetters(start);
            boolean isOn = text.spells(start, at, "ON");
            number = isOn ? 1 : 0;
            return isOn || text.spells(start, at, "OFF");
        }

        private boolean readNumber(Text text) {
            int sign = text.byteAt(at);
            if (sign == '+' || sign == '-') {
                at++;
            }
            int size = 0;
            int figures = 0;
            while (figures < FIGURES_MOST && isFigure(text.byteAt(at))) {
                size = 10 * size + text.byteAt(at) - '0';
                figures++;
                at++;
            }
            if (text.capitalAt(at) == 'K') {
                size = 1000 * size;
                at++;
            }
            number = sign == '-' ? -size : size;
            return figures > 0;
        }
    }

    /** A row of numbers with a greatest length, the first to come first. */
    private static final class Row {
        final int[] items;
        int count = 0;

        Row(int most) {
            items = new int[Math.max(most, 1)];
        }

        boolean add(int item) {
            if (count < 0 || count >= items.length) {
                return false;
            }
            items[count] = item;
            count++;
            return true;
        }

        int at(int i) {
            return i >= 0 && i < count && i < items.length ? items[i] : NONE;
        }

        int removeAt(int i) {
            if (!isWithin(i, 0, count - 1)) {
                return NONE;
            }
            int item = at(i);
            for (int k = i + 1; k < count && k < items.length; k++) {
                items[k - 1] = items[k];
            }
            count--;
            return item;
        }

        void changeLast(int item) {
            if (count > 0 && count <= items.length) {
                items[count - 1] = item;
            }
        }

        void copyFrom(Row other) {
            for (int i = 0; i < items.length && i < other.items.length; i++) {
                items[i] = other.items[i];
            }
            count = other.count;
        }

        long digestFrom(long start) {
            long h = start;
            for (int i = 0; i < count; i++) {
                h = 31L * h + at(i);
            }
            return h;
        }
    }

    /** All that a call can go back to. */
    private static final class State {
        int nodes = 1;
        final int[] low = new int[NODES_MOST];
        final int[] high = new int[NODES_MOST];
        final int[] timesDone = new int[NODES_MOST];
        final int[] numbers = new int[NODES_MOST * SUFFIX_MOST];
        final Row answers = new Row(ANSWERS_MOST);
        final Row faults = new Row(FAULTS_MOST);
        final Row pending = new Row(PENDING_MOST);
        int events = 0;
        int eventMask = 0;
        int serviceMask = 0;
        int conditions = 0;
        int edges = 0;
        int rises = BITS_MOST;
        int falls = 0;
        int enable = 0;
        boolean isWaiting = false;

        void copyFrom(State other) {
            nodes = other.nodes;
            for (int n = 0; n < NODES_MOST; n++) {
                low[n] = other.low[n];
                high[n] = other.high[n];
                timesDone[n] = other.timesDone[n];
            }
            for (int i = 0; i < NODES_MOST * SUFFIX_MOST; i++) {
                numbers[i] = other.numbers[i];
            }
            answers.copyFrom(other.answers);
            faults.copyFrom(other.faults);
            pending.copyFrom(other.pending);
            events = other.events;
            eventMask = other.eventMask;
            serviceMask = other.serviceMask;
            conditions = other.conditions;
            edges = other.edges;
            rises = other.rises;
            falls = other.falls;
            enable = other.enable;
            isWaiting = other.isWaiting;
        }

        void addNode(int greatest) {
            if (nodes >= 0 && nodes < NODES_MOST) {
                low[nodes] = 0;
                high[nodes] = greatest;
                timesDone[nodes] = 0;
                lowerNumbers(nodes);
                nodes++;
            }
        }

        void lowerNumbers(int n) {
            for (int s = 1; s <= SUFFIX_MOST; s++) {
                putNumber(n, s, low[n]);
            }
        }

        int numberOf(int n, int s) {
            int place = n * SUFFIX_MOST + s - 1;
            return isWithin(place, 0, numbers.length - 1) ? numbers[place] : NONE;
        }

        private void putNumber(int n, int s, int number) {
            int place = n * SUFFIX_MOST + s - 1;
            if (isWithin(place, 0, numbers.length - 1)) {
                numbers[place] = number;
            }
        }

        void setNumber(int n, int s, int number) {
            if (isWithin(number, low[n], high[n])) {
                putNumber(n, s, number);
            } else {
                raise(OUT_OF_RANGE);
            }
        }

        void act(int n, boolean isSlow) {
            if (isSlow && !pending.add(n)) {
                raise(OUT_OF_RANGE);
                return;
            }
            timesDone[n]++;
        }

        void finish(int i) {
            pending.removeAt(i);
            if (pending.count == 0 && isWaiting) {
                events |= OPC_EVENT;
                isWaiting = false;
            }
        }

        void raise(int fault) {
            events |= eventOf(fault);
            if (!faults.add(fault)) {
                faults.changeLast(FAULT_LOST);
                events |= LOSS_EVENT;
            }
        }

        private static int eventOf(int fault) {
            switch (-fault / 100) {
                case 1: return 32;
                case 2: return 16;
                case 3: return LOSS_EVENT;
                default: return 4;
            }
        }

        void reply(int number) {
            if (!answers.add(number)) {
                raise(ANSWER_LOST);
            }
        }

        int commonAnswer(int word) {
            switch (word) {
                case ESE: return eventMask;
                case SRE: return serviceMask;
                case ESR: return takeEvents();
                case STB: return sum();
                default: return pending.count == 0 ? 1 : 0;
            }
        }

        /** They go ahead of the ANSWER, so that the event of a lost ANSWER stays. */
        private int takeEvents() {
            int before = events;
            events = 0;
            return before;
        }

        void obeyCommon(int word, int number) {
            switch (word) {
                case CLS:
                    clearStatus();
                    break;
                case OPC:
                    tellWhenOver();
                    break;
                case RST:
                    reset();
                    break;
                default:
                    setByteMask(word, number);
                    break;
            }
        }

        private void clearStatus() {
            events = 0;
            edges = 0;
            faults.count = 0;
            isWaiting = false;
        }

        private void tellWhenOver() {
            if (pending.count == 0) {
                events |= OPC_EVENT;
            } else {
                isWaiting = true;
            }
        }

        private void reset() {
            for (int n = 0; n < nodes && n < NODES_MOST; n++) {
                lowerNumbers(n);
            }
            pending.count = 0;
            isWaiting = false;
        }

        private void setByteMask(int word, int number) {
            if (!isWithin(number, 0, EVENTS_MOST)) {
                raise(OUT_OF_RANGE);
            } else if (word == ESE) {
                eventMask = number;
            } else {
                serviceMask = number;
            }
        }

        void turnCondition(int bit) {
            conditions ^= bit;
            int letThrough = (conditions & bit) != 0 ? rises : falls;
            edges |= bit & letThrough;
        }

        int changeMask(int what, int v) {
            int before;
            if (what == 0) {
                before = rises;
                rises = v;
            } else if (what == 1) {
                before = falls;
                falls = v;
            } else {
                before = enable;
                enable = v;
            }
            return before;
        }

        int sum() {
            int bits = 0;
            if (faults.count > 0) {
                bits |= 4;
            }
            if (answers.count > 0) {
                bits |= 16;
            }
            if ((events & eventMask) != 0) {
                bits |= 32;
            }
            if ((edges & enable) != 0) {
                bits |= 128;
            }
            // 64 is not among the bits yet, so 64 of the mask counts for nothing.
            return (bits & serviceMask) != 0 ? bits | 64 : bits;
        }

        int reading(int what) {
            switch (what) {
                case 0: return events;
                case 1: return eventMask;
                case 2: return serviceMask;
                case 3: return sum();
                case 4: return conditions;
                case 5: return edges;
                case 6: return rises;
                case 7: return falls;
                case 8: return enable;
                case 9: return pending.count;
                case 10: return isWaiting ? 1 : 0;
                case 11: return answers.count;
                case 12: return faults.count;
                default: return nodes;
            }
        }
    }

    /** The STATES to go back to, the oldest first; all made at once, since a run's room is bounded. */
    private static final class History {
        final State[] kept = new State[STATES_MOST];
        int count = 0;

        History() {
            for (int i = 0; i < STATES_MOST; i++) {
                kept[i] = new State();
            }
        }

        void keep(State now) {
            if (count >= STATES_MOST) {
                dropOldest();
            }
            kept[count].copyFrom(now);
            count++;
        }

        void restore(State now) {
            if (count > 0 && count <= STATES_MOST) {
                count--;
                now.copyFrom(kept[count]);
            }
        }

        private void dropOldest() {
            State oldest = kept[0];
            for (int i = 1; i < STATES_MOST; i++) {
                kept[i - 1] = kept[i];
            }
            kept[STATES_MOST - 1] = oldest;
            count = STATES_MOST - 1;
        }
    }
}
