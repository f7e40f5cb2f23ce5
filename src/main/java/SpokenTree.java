/** A screen reader for a tree of nodes; what it promises stands in ../shared/DOC.md. */
public final class SpokenTree {
    public static final int NONE = -1;

    private static final int MAX_NODES = 24;
    private static final int MAX_TEXT = 8;
    private static final int MAX_QUEUE = 10;
    private static final int MAX_RECORDS = 5;
    // 24 texts with a space each, a role and "disabled" stay below this.
    private static final int MAX_WORDS = 256;

    private static final int ROOT = 0;
    private static final int GROUP = 0;
    private static final int TEXT = 1;
    private static final int BUTTON = 2;
    private static final int LINK = 3;
    private static final int IMAGE = 4;
    private static final int FIELD = 5;
    private static final int DIALOG = 6;
    private static final int TABLE = 7;
    private static final int ROW = 8;
    private static final int CELL = 9;
    private static final int HEADER = 10;

    private static final int HIDDEN = 0;
    private static final int DISABLED = 1;
    private static final int TAB_NUMBER = 2;
    private static final int LIVE = 3;
    private static final int ATOMIC = 4;
    private static final int SETTINGS = 5;

    private static final int LIVE_NOT_GIVEN = 0;
    private static final int LIVE_OFF = 1;
    private static final int LIVE_ASSERTIVE = 3;
    private static final int HIGHEST_TAB_NUMBER = 9;

    private static final int RANK_FOCUS = 0;
    private static final int RANK_ASSERTIVE = 1;
    private static final int RANK_POLITE = 2;

    private static final int INFO_KINDS = 15;
    private static final int WORD_KINDS = 6;
    private static final int ANNOUNCEMENT_KINDS = 4;

    private final Scene now = new Scene();
    private final Ring ring = new Ring(now);
    private final Grid grid = new Grid(now.tree);
    private final Scene[] records = new Scene[MAX_RECORDS];
    private int recordCount = 0;
    private final Words buffer = new Words(MAX_TEXT);
    private final Words scratch = new Words(MAX_WORDS);
    private final int[] walk = new int[MAX_NODES];

    public SpokenTree() {
        for (int k = 0; k < MAX_RECORDS; k++) {
            records[k] = new Scene();
        }
    }

    // ---- nodes

    public int create(int parent, int position, int role)
            throws IndexOutOfBoundsException, IllegalArgumentException, IllegalStateException {
        requireNode(parent);
        if (position < 0 || position > now.tree.kidCount(parent)) {
            throw new IndexOutOfBoundsException("no such position");
        }
        if (role < GROUP || role > HEADER) {
            throw new IllegalArgumentException("no such role");
        }
        int node = now.tree.lowestFree();
        if (node == NONE) {
            throw new IllegalStateException("no node is free");
        }
        keepRecord();
        now.tree.begin(node, role);
        now.tree.attach(node, parent, position);
        return node;
    }

    public int remove(int node) throws IndexOutOfBoundsException, IllegalStateException {
        requireNode(node);
        if (node == ROOT) {
            throw new IllegalStateException("the root stays");
        }
        keepRecord();
        int gone = now.tree.maskFrom(node);
        now.forget(gone);
        return Integer.bitCount(gone);
    }

    public int move(int node, int parent, int position)
            throws IndexOutOfBoundsException, IllegalStateException, IllegalArgumentException {
        requireNode(node);
        requireNode(parent);
        Tree tree = now.tree;
        if (node == ROOT || parent == node || tree.liesBelow(parent, node)) {
            throw new IllegalStateException("the node cannot go there");
        }
        int previous = tree.parentOf(node);
        int places = previous == parent ? tree.kidCount(parent) - 1 : tree.kidCount(parent);
        if (position < 0 || position > places) {
            throw new IllegalArgumentException("no such position");
        }
        keepRecord();
        tree.detach(node);
        tree.attach(node, parent, position);
        return previous;
    }

    public int nodes() {
        return now.tree.maskFrom(ROOT);
    }

    public int info(int node, int what) throws IndexOutOfBoundsException, IllegalArgumentException {
        requireNode(node);
        requireKind(what, INFO_KINDS);
        return now.tree.about(node, what);
    }

    public int child(int node, int position) throws IndexOutOfBoundsException {
        requireNode(node);
        return now.tree.kidAt(node, position);
    }

    public int set(int node, int what, int value)
            throws IndexOutOfBoundsException, IllegalArgumentException, IllegalStateException {
        requireNode(node);
        requireKind(what, SETTINGS);
        if (value < lowestValue(what) || value > highestValue(what)) {
            throw new IllegalArgumentException("no such value");
        }
        if (node == ROOT && what == HIDDEN) {
            throw new IllegalStateException("the root is never hidden");
        }
        keepRecord();
        int previous = now.tree.setting(node, what);
        now.tree.give(node, what, value);
        if (what == HIDDEN && previous == 1 && value == 0) {
            now.announceChange(node, scratch);
        }
        return previous;
    }

    public int setText(int node) throws IndexOutOfBoundsException, IllegalStateException {
        requireNode(node);
        int role = now.tree.roleOf(node);
        if (role != TEXT && role != FIELD) {
            throw new IllegalStateException("the node has no text of its own");
        }
        keepRecord();
        replaceWords(node, now.tree.textOf(node), role == TEXT);
        return buffer.size;
    }

    public int setLabel(int node) throws IndexOutOfBoundsException {
        requireNode(node);
        keepRecord();
        replaceWords(node, now.tree.labelOf(node), now.tree.roleOf(node) == IMAGE);
        return buffer.size;
    }

    public int setLabelledBy(int node, int by) throws IndexOutOfBoundsException, IllegalArgumentException {
        requireNode(node);
        if (by != NONE) {
            requireNode(by);
        }
        if (by == node) {
            throw new IllegalArgumentException("a node does not label itself");
        }
        keepRecord();
        int previous = now.tree.labellerOf(node);
        now.tree.labelBy(node, by);
        return previous;
    }

    public int character(int node, int what, int index) throws IndexOutOfBoundsException, IllegalArgumentException {
        requireNode(node);
        requireKind(what, WORD_KINDS);
        collectWords(node, what);
        return scratch.at(index);
    }

    public int length(int node, int what) throws IndexOutOfBoundsException, IllegalArgumentException {
        requireNode(node);
        requireKind(what, WORD_KINDS);
        collectWords(node, what);
        return scratch.size;
    }

    public int inOrder(int place) {
        int count = now.tree.writeOrder(walk);
        return place >= 0 && place < count && place < walk.length ? walk[place] : NONE;
    }

    // ---- focus

    public boolean canFocus(int node) throws IndexOutOfBoundsException {
        requireNode(node);
        return ring.admits(node);
    }

    public int focusOrder(int place) {
        ring.fill();
        return ring.at(place);
    }

    public int focus() {
        return ring.focusNow();
    }

    public int focusOn(int node) throws IndexOutOfBoundsException, IllegalStateException {
        requireNode(node);
        if (!ring.admits(node)) {
            throw new IllegalStateException("the node cannot have the focus");
        }
        keepRecord();
        int before = ring.focusNow();
        now.giveFocus(node, scratch);
        return before;
    }

    public int step(boolean backwards) {
        keepRecord();
        ring.fill();
        int next = ring.beside(ring.focusNow(), backwards);
        if (next != NONE) {
            now.giveFocus(next, scratch);
        }
        return next;
    }

    public int open(int node) throws IndexOutOfBoundsException, IllegalArgumentException, IllegalStateException {
        requireDialog(node);
        if (now.tree.isOpen(node)) {
            throw new IllegalStateException("the dialog is open");
        }
        keepRecord();
        now.tree.openDialog(node, ring.focusNow());
        ring.fill();
        int first = ring.at(0);
        if (now.tree.liesBelow(first, node)) {
            now.giveFocus(first, scratch);
        } else {
            now.focused = NONE;
        }
        return ring.focusNow();
    }

    public int close(int node) throws IndexOutOfBoundsException, IllegalArgumentException, IllegalStateException {
        requireDialog(node);
        if (!now.tree.isOpen(node)) {
            throw new IllegalStateException("the dialog is closed");
        }
        keepRecord();
        now.tree.closeDialog(node);
        int back = now.tree.returnOf(node);
        if (ring.admits(back)) {
            now.giveFocus(back, scratch);
        }
        return ring.focusNow();
    }

    public int trap() {
        return now.tree.topDialog();
    }

    // ---- announcements

    public int region(int node) throws IndexOutOfBoundsException {
        requireNode(node);
        return now.tree.regionOf(node);
    }

    public int pending() {
        return now.queue.count;
    }

    public int announcement(int k, int what) throws IllegalArgumentException {
        requireKind(what, ANNOUNCEMENT_KINDS);
        return now.queue.about(k, what);
    }

    public int announced(int k, int index) {
        return now.queue.signAt(k, index);
    }

    public int speak() {
        keepRecord();
        return now.queue.moveFirst(now.spoken) ? now.spoken.size : NONE;
    }

    public int spoken(int index) {
        return now.spoken.at(index);
    }

    public int silence() {
        keepRecord();
        return now.queue.dropAll();
    }

    // ---- tables

    public int cellPlace(int node, boolean column) throws IndexOutOfBoundsException {
        requireNode(node);
        if (!grid.isCell(node)) {
            return NONE;
        }
        return column ? grid.columnOf(node) : grid.rowOf(node);
    }

    public int cellAt(int node, int row, int column) throws IndexOutOfBoundsException {
        requireNode(node);
        return now.tree.roleOf(node) == TABLE ? grid.cellIn(node, row, column) : NONE;
    }

    public int header(int node, boolean column) throws IndexOutOfBoundsException {
        requireNode(node);
        return grid.headerOf(node, column);
    }

    public int read(int node) throws IndexOutOfBoundsException, IllegalStateException {
        requireNode(node);
        if (!grid.isCell(node)) {
            throw new IllegalStateException("the node is no cell of a row of a table");
        }
        keepRecord();
        readCell(node);
        return now.spoken.size;
    }

    public int readBeside(int direction) throws IllegalArgumentException, IllegalStateException {
        requireKind(direction, 4);
        int cell = grid.beside(now.readLast, direction);
        if (cell == NONE) {
            throw new IllegalStateException("there is no cell to read");
        }
        keepRecord();
        readCell(cell);
        return cell;
    }

    // ---- texts, undo

    public int type(int c) throws IllegalArgumentException, IllegalStateException {
        if (c < 33 || c > 126) {
            throw new IllegalArgumentException("no such character");
        }
        if (buffer.size >= MAX_TEXT) {
            throw new IllegalStateException("the buffer is full");
        }
        buffer.put(c);
        return buffer.size;
    }

    public int clearText() {
        int before = buffer.size;
        buffer.empty();
        return before;
    }

    public int undo() throws IllegalStateException {
        if (recordCount <= 0 || recordCount > records.length) {
            throw new IllegalStateException("there is no record");
        }
        recordCount--;
        now.copyFrom(records[recordCount]);
        return recordCount;
    }

    public long checksum() {
        long h = mix(18379, nodes());
        int count = now.tree.writeOrder(walk);
        for (int place = 0; place < count && place < walk.length; place++) {
            h = mixNode(h, walk[place]);
        }
        h = mix(mix(h, ring.focusNow()), trap());
        ring.fill();
        for (int place = 0; place < ring.count; place++) {
            h = mix(h, ring.at(place));
        }
        h = mixQueue(h);
        h = mixWords(h, now.spoken);
        h = mix(h, buffer.size);
        return mix(h, recordCount);
    }

    // ---- what the methods above share

    private void requireNode(int node) {
        if (!now.tree.has(node)) {
            throw new IndexOutOfBoundsException("no such node");
        }
    }

    private void requireDialog(int node) {
        requireNode(node);
        if (now.tree.roleOf(node) != DIALOG) {
            throw new IllegalArgumentException("the node is no dialog");
        }
    }

    private static void requireKind(int what, int kinds) {
        if (what < 0 || what >= kinds) {
            throw new IllegalArgumentException("no such thing");
        }
    }

    private static int lowestValue(int what) {
        return what == TAB_NUMBER ? -1 : 0;
    }

    private static int highestValue(int what) {
        if (what == TAB_NUMBER) {
            return HIGHEST_TAB_NUMBER;
        }
        return what == LIVE ? LIVE_ASSERTIVE : 1;
    }

    // Called when nothing can throw any more: a call that throws leaves no record.
    private void keepRecord() {
        if (recordCount >= MAX_RECORDS) {
            Scene oldest = records[0];
            for (int k = 1; k < MAX_RECORDS; k++) {
                records[k - 1] = records[k];
            }
            records[MAX_RECORDS - 1] = oldest;
            recordCount = MAX_RECORDS - 1;
        }
        if (recordCount >= 0 && recordCount < records.length) {
            records[recordCount].copyFrom(now);
            recordCount++;
        }
    }

    private void replaceWords(int node, Words words, boolean announces) {
        boolean differs = !words.matches(buffer);
        words.become(buffer);
        if (announces && differs) {
            now.announceChange(node, scratch);
        }
    }

    private void collectWords(int node, int what) {
        scratch.empty();
        switch (what) {
            case 0:
                scratch.join(now.tree.textOf(node));
                break;
            case 1:
                scratch.join(now.tree.labelOf(node));
                break;
            case 2:
                now.tree.joinName(node, scratch);
                break;
            case 3:
                now.tree.joinPhrase(node, scratch);
                break;
            case 4:
                now.tree.joinContent(node, scratch);
                break;
            default:
                now.tree.joinPart(node, scratch);
                break;
        }
    }

    private void readCell(int cell) {
        now.spoken.empty();
        joinHeader(cell, false);
        joinHeader(cell, true);
        now.tree.joinPart(cell, now.spoken);
        now.readLast = cell;
    }

    private void joinHeader(int cell, boolean column) {
        int header = grid.headerOf(cell, column);
        if (header != NONE && header != grid.headerOf(now.readLast, column)) {
            now.tree.joinPart(header, now.spoken);
        }
    }

    private static long mix(long h, long v) {
        return 31 * h + v;
    }

    private static long mixWords(long start, Words words) {
        long h = start;
        for (int index = 0; index < words.size; index++) {
            h = mix(h, words.at(index));
        }
        return h;
    }

    private long mixNode(long start, int node) {
        long h = mix(start, node);
        for (int what = 0; what < INFO_KINDS; what++) {
            h = mix(h, now.tree.about(node, what));
        }
        scratch.empty();
        now.tree.joinPhrase(node, scratch);
        return mixWords(h, scratch);
    }

    private long mixQueue(long start) {
        Queue queue = now.queue;
        long h = mix(start, queue.count);
        for (int k = 0; k < queue.count; k++) {
            for (int what = 0; what < ANNOUNCEMENT_KINDS; what++) {
                h = mix(h, queue.about(k, what));
            }
            int size = queue.about(k, 3);
            for (int index = 0; index < size; index++) {
                h = mix(h, queue.signAt(k, index));
            }
        }
        return h;
    }

    /** Characters in a room of fixed size, made once and used again. */
    private static final class Words {
        private final char[] signs;
        private int size = 0;

        Words(int room) {
            signs = new char[room < 0 ? 0 : room];
        }

        void empty() {
            size = 0;
        }

        void put(int sign) {
            if (size < signs.length) {
                signs[size] = (char) sign;
                size++;
            }
        }

        int at(int index) {
            return index >= 0 && index < size && index < signs.length ? signs[index] : NONE;
        }

        boolean matches(Words other) {
            if (size != other.size) {
                return false;
            }
            for (int index = 0; index < size; index++) {
                if (at(index) != other.at(index)) {
                    return false;
                }
            }
            return true;
        }

        void become(Words other) {
            size = Math.min(other.size, signs.length);
            System.arraycopy(other.signs, 0, signs, 0, size);
        }

        // Empty words leave no space behind, so a join of joins may be written in one run.
        void join(Words other) {
            if (size > 0 && other.size > 0) {
                put(' ');
            }
            for (int index = 0; index < other.size; index++) {
                put(other.at(index));
            }
        }

        void join(String word) {
            if (size > 0 && word.length() > 0) {
                put(' ');
            }
            for (int index = 0; index < word.length(); index++) {
                put(word.charAt(index));
            }
        }
    }

    /** The nodes: where they stand, their settings and dialogs, and the words they make. */
    private static final class Tree {
        // NONE marks a number that is free; all else of it is then as begin() leaves it.
        private final int[] roles = new int[MAX_NODES];
        private final int[] parents = new int[MAX_NODES];
        private final int[] kidCounts = new int[MAX_NODES];
        private final int[] kids = new int[MAX_NODES * MAX_NODES];
        private final int[] labellers = new int[MAX_NODES];
        private final int[] settings = new int[MAX_NODES * SETTINGS];
        private final Words[] texts = new Words[MAX_NODES];
        private final Words[] labels = new Words[MAX_NODES];
        // 0 for a closed dialog; a later opening has a higher number.
        private final int[] openings = new int[MAX_NODES];
        private int lastOpening = 0;
        private final int[] returns = new int[MAX_NODES];
        private final Words none = new Words(0);

        Tree() {
            for (int node = 0; node < MAX_NODES; node++) {
                texts[node] = new Words(MAX_TEXT);
                labels[node] = new Words(MAX_TEXT);
                begin(node, NONE);
            }
            begin(ROOT, GROUP);
        }

        void begin(int node, int role) {
            if (node < 0 || node >= MAX_NODES) {
                return;
            }
            roles[node] = role;
            parents[node] = NONE;
            kidCounts[node] = 0;
            labellers[node] = NONE;
            for (int what = 0; what < SETTINGS; what++) {
                settings[node * SETTINGS + what] = 0;
            }
            texts[node].empty();
            labels[node].empty();
            openings[node] = 0;
            returns[node] = NONE;
        }

        void copyFrom(Tree other) {
            System.arraycopy(other.roles, 0, roles, 0, MAX_NODES);
            System.arraycopy(other.parents, 0, parents, 0, MAX_NODES);
            System.arraycopy(other.kidCounts, 0, kidCounts, 0, MAX_NODES);
            System.arraycopy(other.kids, 0, kids, 0, kids.length);
            System.arraycopy(other.labellers, 0, labellers, 0, MAX_NODES);
            System.arraycopy(other.settings, 0, settings, 0, settings.length);
            System.arraycopy(other.openings, 0, openings, 0, MAX_NODES);
            System.arraycopy(other.returns, 0, returns, 0, MAX_NODES);
            lastOpening = other.lastOpening;
            for (int node = 0; node < MAX_NODES; node++) {
                texts[node].become(other.texts[node]);
                labels[node].become(other.labels[node]);
            }
        }

        boolean has(int node) {
            return node >= 0 && node < MAX_NODES && roles[node] != NONE;
        }

        int lowestFree() {
            for (int node = 0; node < MAX_NODES; node++) {
                if (!has(node)) {
                    return node;
                }
            }
            return NONE;
        }

        int roleOf(int node) {
            return node >= 0 && node < MAX_NODES ? roles[node] : NONE;
        }

        int parentOf(int node) {
            return node >= 0 && node < MAX_NODES ? parents[node] : NONE;
        }

        int kidCount(int node) {
            return node >= 0 && node < MAX_NODES ? kidCounts[node] : 0;
        }

        int kidAt(int node, int place) {
            if (node < 0 || node >= MAX_NODES || place < 0 || place >= kidCounts[node]) {
                return NONE;
            }
            return kids[node * MAX_NODES + place];
        }

        int placeOf(int node) {
            int parent = parentOf(node);
            for (int place = 0; place < kidCount(parent); place++) {
                if (kidAt(parent, place) == node) {
                    return place;
                }
            }
            return 0;
        }

        void attach(int node, int parent, int place) {
            int count = kidCount(parent);
            if (!has(node) || !has(parent) || place < 0 || place > count || count >= MAX_NODES) {
                return;
            }
            int row = parent * MAX_NODES;
            for (int later = count; later > place; later--) {
                kids[row + later] = kids[row + later - 1];
            }
            kids[row + place] = node;
            kidCounts[parent]++;
            parents[node] = parent;
        }

        void detach(int node) {
            int parent = parentOf(node);
            if (!has(parent)) {
                return;
            }
            int row = parent * MAX_NODES;
            for (int later = placeOf(node) + 1; later < kidCount(parent); later++) {
                kids[row + later - 1] = kids[row + later];
            }
            kidCounts[parent]--;
            parents[node] = NONE;
        }

        boolean liesBelow(int node, int above) {
            int at = parentOf(node);
            for (int level = 0; level < MAX_NODES && at != NONE; level++) {
                if (at == above) {
                    return true;
                }
                at = parentOf(at);
            }
            return false;
        }

        int maskFrom(int top) {
            int mask = 0;
            for (int node = 0; node < MAX_NODES; node++) {
                if (has(node) && (node == top || liesBelow(node, top))) {
                    mask |= 1 << node;
                }
            }
            return mask;
        }

        int writeOrder(int[] places) {
            return writeFrom(ROOT, places, 0, 0);
        }

        private int writeFrom(int node, int[] places, int start, int depth) {
            if (depth > MAX_NODES || start < 0 || start >= places.length) {
                return start;
            }
            places[start] = node;
            int count = start + 1;
            for (int place = 0; place < kidCount(node); place++) {
                count = writeFrom(kidAt(node, place), places, count, depth + 1);
            }
            return count;
        }

        // The nodes in the mask are a node and all below it.
        void drop(int gone) {
            for (int node = 0; node < MAX_NODES; node++) {
                if (isIn(gone, node)) {
                    if (!isIn(gone, parentOf(node))) {
                        detach(node);
                    }
                    begin(node, NONE);
                }
                if (isIn(gone, labellers[node])) {
                    labellers[node] = NONE;
                }
                if (isIn(gone, returns[node])) {
                    returns[node] = NONE;
                }
            }
        }

        int setting(int node, int what) {
            if (node < 0 || node >= MAX_NODES || what < 0 || what >= SETTINGS) {
                return 0;
            }
            return settings[node * SETTINGS + what];
        }

        void give(int node, int what, int value) {
            if (has(node) && what >= 0 && what < SETTINGS) {
                settings[node * SETTINGS + what] = value;
            }
        }

        Words textOf(int node) {
            return node >= 0 && node < MAX_NODES ? texts[node] : none;
        }

        Words labelOf(int node) {
            return node >= 0 && node < MAX_NODES ? labels[node] : none;
        }

        int labellerOf(int node) {
            return node >= 0 && node < MAX_NODES ? labellers[node] : NONE;
        }

        void labelBy(int node, int by) {
            if (has(node)) {
                labellers[node] = by;
            }
        }

        boolean isOpen(int node) {
            return node >= 0 && node < MAX_NODES && openings[node] != 0;
        }

        void openDialog(int node, int focusBefore) {
            if (has(node)) {
                lastOpening++;
                openings[node] = lastOpening;
                returns[node] = focusBefore;
            }
        }

        void closeDialog(int node) {
            if (has(node)) {
                openings[node] = 0;
            }
        }

        int returnOf(int dialog) {
            return dialog >= 0 && dialog < MAX_NODES ? returns[dialog] : NONE;
        }

        boolean isOut(int node) {
            return setting(node, HIDDEN) == 1 || (roleOf(node) == DIALOG && !isOpen(node));
        }

        boolean isShown(int node) {
            int at = node;
            for (int level = 0; level < MAX_NODES && at != NONE; level++) {
                if (isOut(at)) {
                    return false;
                }
                at = parentOf(at);
            }
            return has(node);
        }

        int topDialog() {
            int top = NONE;
            for (int node = 0; node < MAX_NODES; node++) {
                if (isOpen(node) && isShown(node) && (top == NONE || openings[node] > openings[top])) {
                    top = node;
                }
            }
            return top;
        }

        int regionOf(int node) {
            int at = node;
            for (int level = 0; level < MAX_NODES && at != NONE; level++) {
                if (setting(at, LIVE) != LIVE_NOT_GIVEN) {
                    return setting(at, LIVE) == LIVE_OFF ? NONE : at;
                }
                at = parentOf(at);
            }
            return NONE;
        }

        int about(int node, int what) {
            switch (what) {
                case 0: return roleOf(node);
                case 1: return parentOf(node);
                case 2: return placeOf(node);
                case 3: return kidCount(node);
                case 4: return textOf(node).size;
                case 5: return labelOf(node).size;
                case 6: return labellerOf(node);
                case 12: return isOpen(node) ? 1 : 0;
                case 13: return isOut(node) ? 1 : 0;
                case 14: return isShown(node) ? 1 : 0;
                default: return setting(node, what - 7);
            }
        }

        void joinContent(int node, Words out) {
            addContent(node, out, 0);
        }

        void joinPart(int node, Words out) {
            addPart(node, out, 0);
        }

        void joinName(int node, Words out) {
            if (labellerOf(node) != NONE) {
                addContent(labellerOf(node), out, 0);
            } else if (labelOf(node).size > 0) {
                out.join(labelOf(node));
            } else if (isNamedByContent(roleOf(node))) {
                addContent(node, out, 0);
            }
        }

        void joinPhrase(int node, Words out) {
            joinName(node, out);
            out.join(roleWord(roleOf(node)));
            if (roleOf(node) == FIELD) {
                out.join(textOf(node));
            }
            if (setting(node, DISABLED) == 1) {
                out.join("disabled");
            }
        }

        private void addContent(int node, Words out, int depth) {
            int role = roleOf(node);
            if (depth > MAX_NODES || role == IMAGE) {
                return;
            }
            if (role == TEXT || role == FIELD) {
                out.join(textOf(node));
                return;
            }
            for (int place = 0; place < kidCount(node); place++) {
                int kid = kidAt(node, place);
                if (!isOut(kid)) {
                    addPart(kid, out, depth + 1);
                }
            }
        }

        private void addPart(int node, Words out, int depth) {
            if (labelOf(node).size > 0) {
                out.join(labelOf(node));
            } else {
                addContent(node, out, depth);
            }
        }

        private static boolean isNamedByContent(int role) {
            return role == TEXT || role == BUTTON || role == LINK || role == CELL || role == HEADER;
        }

        private static String roleWord(int role) {
            switch (role) {
                case BUTTON: return "button";
                case LINK: return "link";
                case IMAGE: return "image";
                case FIELD: return "edit";
                case DIALOG: return "dialog";
                case TABLE: return "table";
                case HEADER: return "header";
                default: return "";
            }
        }
    }

    private static boolean isIn(int mask, int node) {
        return node >= 0 && node < MAX_NODES && ((mask >> node) & 1) == 1;
    }

    /** The announcements that wait to be spoken. */
    private static final class Queue {
        private int count = 0;
        private final int[] ranks = new int[MAX_QUEUE];
        private final int[] targets = new int[MAX_QUEUE];
        private final int[] regions = new int[MAX_QUEUE];
        private final Words[] words = new Words[MAX_QUEUE];

        Queue() {
            for (int k = 0; k < MAX_QUEUE; k++) {
                words[k] = new Words(MAX_WORDS);
            }
        }

        void copyFrom(Queue other) {
            count = other.count;
            System.arraycopy(other.ranks, 0, ranks, 0, MAX_QUEUE);
            System.arraycopy(other.targets, 0, targets, 0, MAX_QUEUE);
            System.arraycopy(other.regions, 0, regions, 0, MAX_QUEUE);
            for (int k = 0; k < count && k < MAX_QUEUE; k++) {
                words[k].become(other.words[k]);
            }
        }

        boolean has(int k) {
            return k >= 0 && k < count && k < MAX_QUEUE;
        }

        int rankOf(int k) {
            return has(k) ? ranks[k] : NONE;
        }

        int targetOf(int k) {
            return has(k) ? targets[k] : NONE;
        }

        int regionOf(int k) {
            return has(k) ? regions[k] : NONE;
        }

        int about(int k, int what) {
            if (!has(k)) {
                return NONE;
            }
            switch (what) {
                case 0: return rankOf(k);
                case 1: return targetOf(k);
                case 2: return regionOf(k);
                default: return words[k].size;
            }
        }

        int signAt(int k, int index) {
            return has(k) ? words[k].at(index) : NONE;
        }

        void append(int rank, int target, int region, Words said) {
            if (count >= MAX_QUEUE) {
                drop(firstOfHighestRank());
            }
            if (count < 0 || count >= MAX_QUEUE) {
                return;
            }
            ranks[count] = rank;
            targets[count] = target;
            regions[count] = region;
            words[count].become(said);
            count++;
        }

        boolean moveFirst(Words out) {
            int first = firstOfLowestRank();
            if (!has(first)) {
                return false;
            }
            out.become(words[first]);
            drop(first);
            return true;
        }

        int dropAll() {
            int before = count;
            count = 0;
            return before;
        }

        void dropFocus() {
            for (int k = count - 1; k >= 0; k--) {
                if (rankOf(k) == RANK_FOCUS) {
                    drop(k);
                }
            }
        }

        void dropChangeOf(int target) {
            for (int k = count - 1; k >= 0; k--) {
                if (rankOf(k) != RANK_FOCUS && targetOf(k) == target) {
                    drop(k);
                }
            }
        }

        void dropPolite(int region) {
            for (int k = count - 1; k >= 0; k--) {
                if (rankOf(k) == RANK_POLITE && regionOf(k) == region) {
                    drop(k);
                }
            }
        }

        void dropNodes(int gone) {
            for (int k = count - 1; k >= 0; k--) {
                if (isIn(gone, targetOf(k)) || isIn(gone, regionOf(k))) {
                    drop(k);
                }
            }
        }

        private int firstOfHighestRank() {
            int best = 0;
            for (int k = 1; k < count; k++) {
                if (rankOf(k) > rankOf(best)) {
                    best = k;
                }
            }
            return best;
        }

        private int firstOfLowestRank() {
            int best = 0;
            for (int k = 1; k < count; k++) {
                if (rankOf(k) < rankOf(best)) {
                    best = k;
                }
            }
            return best;
        }

        // The words' room goes behind the others, to be used again.
        private void drop(int k) {
            if (!has(k)) {
                return;
            }
            Words room = words[k];
            for (int later = k + 1; later < count; later++) {
                ranks[later - 1] = ranks[later];
                targets[later - 1] = targets[later];
                regions[later - 1] = regions[later];
                words[later - 1] = words[later];
            }
            words[count - 1] = room;
            count--;
        }
    }

    /** All that a record holds. */
    private static final class Scene {
        private final Tree tree = new Tree();
        private final Queue queue = new Queue();
        private final Words spoken = new Words(MAX_WORDS);
        private int focused = NONE;
        private int readLast = NONE;

        void copyFrom(Scene other) {
            tree.copyFrom(other.tree);
            queue.copyFrom(other.queue);
            spoken.become(other.spoken);
            focused = other.focused;
            readLast = other.readLast;
        }

        void forget(int gone) {
            tree.drop(gone);
            queue.dropNodes(gone);
            if (isIn(gone, focused)) {
                focused = NONE;
            }
            if (isIn(gone, readLast)) {
                readLast = NONE;
            }
        }

        void giveFocus(int node, Words scratch) {
            focused = node;
            queue.dropFocus();
            scratch.empty();
            tree.joinPhrase(node, scratch);
            if (scratch.size > 0) {
                queue.append(RANK_FOCUS, node, NONE, scratch);
            }
        }

        void announceChange(int node, Words scratch) {
            int region = tree.regionOf(node);
            if (region == NONE || !tree.isShown(node)) {
                return;
            }
            int target = tree.setting(region, ATOMIC) == 1 ? region : node;
            scratch.empty();
            tree.joinPart(target, scratch);
            if (scratch.size == 0) {
                return;
            }
            queue.dropChangeOf(target);
            if (tree.setting(region, LIVE) == LIVE_ASSERTIVE) {
                queue.dropPolite(region);
                queue.append(RANK_ASSERTIVE, target, region, scratch);
            } else {
                queue.append(RANK_POLITE, target, region, scratch);
            }
        }
    }

    /** The order of focus, as it stood when fill() was called last. */
    private static final class Ring {
        private final Scene scene;
        private final int[] walk = new int[MAX_NODES];
        private final int[] order = new int[MAX_NODES];
        private int count = 0;

        Ring(Scene scene) {
            this.scene = scene;
        }

        boolean admits(int node) {
            return admitsIn(node, scene.tree.topDialog());
        }

        int focusNow() {
            return admits(scene.focused) ? scene.focused : NONE;
        }

        void fill() {
            int nodes = scene.tree.writeOrder(walk);
            int trap = scene.tree.topDialog();
            count = 0;
            for (int number = 1; number <= HIGHEST_TAB_NUMBER; number++) {
                addAll(number, nodes, trap);
            }
            addAll(0, nodes, trap);
        }

        int at(int place) {
            return place >= 0 && place < count && place < MAX_NODES ? order[place] : NONE;
        }

        int beside(int node, boolean backwards) {
            int place = find(node);
            if (backwards) {
                return at(place <= 0 ? count - 1 : place - 1);
            }
            return at(place + 1 >= count ? 0 : place + 1);
        }

        // NONE, which counts as before the first, if the node is not there.
        private int find(int node) {
            for (int place = 0; place < count; place++) {
                if (at(place) == node) {
                    return place;
                }
            }
            return NONE;
        }

        private void addAll(int number, int nodes, int trap) {
            for (int place = 0; place < nodes && place < MAX_NODES; place++) {
                int node = walk[place];
                if (scene.tree.setting(node, TAB_NUMBER) == number && admitsIn(node, trap) && count < MAX_NODES) {
                    order[count] = node;
                    count++;
                }
            }
        }

        private boolean admitsIn(int node, int trap) {
            Tree tree = scene.tree;
            int role = tree.roleOf(node);
            if (role != BUTTON && role != LINK && role != FIELD) {
                return false;
            }
            if (tree.setting(node, DISABLED) == 1 || tree.setting(node, TAB_NUMBER) == -1 || !tree.isShown(node)) {
                return false;
            }
            return trap == NONE || tree.liesBelow(node, trap);
        }
    }

    /** The tables among the nodes. */
    private static final class Grid {
        private static final int LEFT = 0;
        private static final int RIGHT = 1;
        private static final int ABOVE = 2;

        private final Tree tree;

        Grid(Tree tree) {
            this.tree = tree;
        }

        boolean isCell(int node) {
            int row = tree.parentOf(node);
            return belongs(tree.roleOf(node), false) && tree.roleOf(row) == ROW
                    && tree.roleOf(tree.parentOf(row)) == TABLE;
        }

        int columnOf(int cell) {
            return numberOf(cell, false);
        }

        int rowOf(int cell) {
            return numberOf(tree.parentOf(cell), true);
        }

        int cellIn(int table, int row, int column) {
            return pick(pick(table, row, true), column, false);
        }

        int headerOf(int node, boolean column) {
            if (!isCell(node)) {
                return NONE;
            }
            return column ? columnHeaderOf(node) : rowHeaderOf(node);
        }

        int beside(int node, int direction) {
            if (!isCell(node)) {
                return NONE;
            }
            int table = tree.parentOf(tree.parentOf(node));
            int row = rowOf(node);
            int column = columnOf(node);
            switch (direction) {
                case LEFT: return cellIn(table, row, column - 1);
                case RIGHT: return cellIn(table, row, column + 1);
                case ABOVE: return cellIn(table, row - 1, column);
                default: return cellIn(table, row + 1, column);
            }
        }

        private int columnHeaderOf(int cell) {
            int table = tree.parentOf(tree.parentOf(cell));
            int column = columnOf(cell);
            for (int row = rowOf(cell) - 1; row >= 0; row--) {
                int other = cellIn(table, row, column);
                if (tree.roleOf(other) == HEADER) {
                    return other;
                }
            }
            return NONE;
        }

        private int rowHeaderOf(int cell) {
            int row = tree.parentOf(cell);
            for (int place = tree.placeOf(cell) - 1; place >= 0; place--) {
                int other = tree.kidAt(row, place);
                if (tree.roleOf(other) == HEADER) {
                    return other;
                }
            }
            return NONE;
        }

        private static boolean belongs(int role, boolean asRow) {
            return asRow ? role == ROW : (role == CELL || role == HEADER);
        }

        private int numberOf(int kid, boolean asRow) {
            int parent = tree.parentOf(kid);
            int number = 0;
            for (int place = 0; place < tree.kidCount(parent) && tree.kidAt(parent, place) != kid; place++) {
                if (belongs(tree.roleOf(tree.kidAt(parent, place)), asRow)) {
                    number++;
                }
            }
            return number;
        }

        private int pick(int parent, int number, boolean asRow) {
            int seen = 0;
            for (int place = 0; place < tree.kidCount(parent); place++) {
                int kid = tree.kidAt(parent, place);
                if (belongs(tree.roleOf(kid), asRow)) {
                    if (seen == number) {
                        return kid;
                    }
                    seen++;
                }
            }
            return NONE;
        }
    }
}
