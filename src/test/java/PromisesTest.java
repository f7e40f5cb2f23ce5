/** The promises of the document, one after the other: ordinary calls, edges, and wrong calls. */
public final class PromisesTest {
    private static final Class<IndexOutOfBoundsException> OUTSIDE = IndexOutOfBoundsException.class;
    private static final Class<IllegalArgumentException> ARGUMENT = IllegalArgumentException.class;
    private static final Class<IllegalStateException> STATE = IllegalStateException.class;
    private static final int GROUP = 0;
    private static final int TEXT = 1;
    private static final int BUTTON = 2;
    private static final int LINK = 3;
    private static final int IMAGE = 4;
    private static final int FIELD = 5;
    private static final int DIALOG = 6;
    private static final int TABLE = 7;
    private static final int ROW = 8;
    private static final int CELL = 9;
    private static final int HEADER = 10;

    private PromisesTest() {
    }

    public static void main(String[] args) {
        newObject();
        create();
        remove();
        removeForgets();
        move();
        nodesInfoChild();
        infoOfDialogs();
        set();
        setAnnounces();
        setText();
        setLabel();
        setLabelledBy();
        content();
        namesAndPhrases();
        characterAndLength();
        inOrder();
        canFocus();
        focusOrder();
        focus();
        focusOn();
        step();
        open();
        openWithoutFocus();
        close();
        trap();
        region();
        pendingAndAnnouncement();
        announced();
        changesReplaceChanges();
        assertiveClearsItsRegion();
        fullQueue();
        speak();
        spoken();
        silence();
        cellPlaceAndCellAt();
        header();
        read();
        readAfterMoves();
        readBeside();
        typeAndClearText();
        undo();
        undoRestoresAll();
        undoableCalls();
        checksum();
        Check.end("PromisesTest");
    }

    private static void newObject() {
        SpokenTree x = new SpokenTree();
        Check.same("1: NONE", SpokenTree.NONE, -1);
        Check.same("1: nodes()", x.nodes(), 1);
        Check.same("1: the root's role", x.info(0, 0), GROUP);
        Check.same("1: the root's children", x.info(0, 3), 0);
        Check.same("1: pending()", x.pending(), 0);
        Check.same("1: spoken(0)", x.spoken(0), -1);
        Check.same("1: focus()", x.focus(), -1);
        Check.same("1: clearText()", x.clearText(), 0);
        Check.refused("1: undo()", x, STATE, x::undo);
        Check.refused("1: readBeside(0)", x, STATE, () -> x.readBeside(0));
        SpokenTree y = new SpokenTree();
        y.create(0, 0, TEXT);
        Check.same("1: another object's nodes stay", x.nodes(), 1);
    }

    private static void create() {
        SpokenTree x = new SpokenTree();
        Check.same("2: first", x.create(0, 0, TABLE), 1);
        Check.same("2: ahead", x.create(0, 0, GROUP), 2);
        Check.same("2: between", x.create(0, 1, HEADER), 3);
        Check.same("2: behind", x.create(0, 3, TEXT), 4);
        Check.same("2: below", x.create(1, 0, ROW), 5);
        Check.same("2: order", Check.documentOrder(x), "0 2 3 1 5 4");
        x.remove(2);
        Check.same("2: lowest free number", x.create(4, 0, BUTTON), 2);
        Check.same("2: next free number", x.create(4, 0, BUTTON), 6);
        Check.refused("2: no parent", x, OUTSIDE, () -> x.create(7, 0, 1));
        Check.refused("2: parent -1", x, OUTSIDE, () -> x.create(-1, 0, 1));
        Check.refused("2: parent 24", x, OUTSIDE, () -> x.create(24, 0, 1));
        Check.refused("2: position -1", x, OUTSIDE, () -> x.create(0, -1, 1));
        Check.refused("2: position 4 of 3", x, OUTSIDE, () -> x.create(0, 4, 1));
        Check.refused("2: position and role", x, OUTSIDE, () -> x.create(0, 4, 11));
        Check.refused("2: role -1", x, ARGUMENT, () -> x.create(0, 0, -1));
        Check.refused("2: role 11", x, ARGUMENT, () -> x.create(0, 0, 11));
        while (x.nodes() != 0xFFFFFF) {
            Check.add(x, 0, GROUP);
        }
        Check.same("2: the last node", x.info(23, 1), 0);
        Check.refused("2: 24 nodes", x, STATE, () -> x.create(0, 0, 1));
        Check.refused("2: 24 nodes and role", x, ARGUMENT, () -> x.create(0, 0, 11));
        Check.refused("2: 24 nodes and position", x, OUTSIDE, () -> x.create(0, 99, 1));
        x.remove(23);
        Check.same("2: room again", x.create(0, 0, 1), 23);
        freshNumber();
    }

    private static void freshNumber() {
        SpokenTree x = new SpokenTree();
        x.create(0, 0, DIALOG);
        x.create(1, 0, TEXT);
        x.setLabelledBy(1, 2);
        x.set(1, 2, 5);
        x.set(1, 1, 1);
        Check.label(x, 1, "old");
        x.open(1);
        x.remove(1);
        Check.same("2: used number", x.create(0, 0, DIALOG), 1);
        Check.same("2: no children", x.info(1, 3), 0);
        Check.same("2: no label", x.info(1, 5), 0);
        Check.same("2: not labelled", x.info(1, 6), -1);
        Check.same("2: not disabled", x.info(1, 8), 0);
        Check.same("2: tab number 0", x.info(1, 9), 0);
        Check.same("2: closed", x.info(1, 12), 0);
        x.create(0, 0, TEXT);
        Check.text(x, 2, "old");
        x.set(2, 0, 1);
        x.set(2, 3, 3);
        x.set(2, 4, 1);
        x.remove(2);
        x.create(0, 0, FIELD);
        Check.same("2: no text", x.info(2, 4), 0);
        Check.same("2: not hidden", x.info(2, 7), 0);
        Check.same("2: live not given", x.info(2, 10), 0);
        Check.same("2: not atomic", x.info(2, 11), 0);
    }

    private static void remove() {
        SpokenTree x = new SpokenTree();
        Check.add(x, 0, GROUP);
        Check.add(x, 0, GROUP);
        Check.add(x, 1, GROUP);
        Check.add(x, 3, TEXT);
        Check.add(x, 0, GROUP);
        Check.refused("3: root", x, STATE, () -> x.remove(0));
        Check.refused("3: no node", x, OUTSIDE, () -> x.remove(6));
        Check.refused("3: node -1", x, OUTSIDE, () -> x.remove(-1));
        Check.refused("3: node 24", x, OUTSIDE, () -> x.remove(24));
        Check.same("3: one node", x.remove(2), 1);
        Check.same("3: places close up", x.info(5, 2), 1);
        Check.same("3: with all below", x.remove(1), 3);
        Check.same("3: what is left", x.nodes(), 0b100001);
        Check.same("3: order", Check.documentOrder(x), "0 5");
        Check.refused("3: twice", x, OUTSIDE, () -> x.remove(1));
    }

    private static void removeForgets() {
        SpokenTree x = new SpokenTree();
        Check.add(x, 0, GROUP);
        Check.add(x, 1, BUTTON);
        Check.add(x, 0, BUTTON);
        Check.add(x, 0, DIALOG);
        Check.add(x, 4, FIELD);
        x.setLabelledBy(3, 2);
        x.focusOn(2);
        x.open(4);
        Check.same("3: focus in the dialog", x.focus(), 5);
        x.remove(1);
        Check.same("3: labelled no more", x.info(3, 6), -1);
        x.create(0, 0, GROUP);
        x.create(1, 0, BUTTON);
        Check.same("3: the dialog remembers none", x.close(4), -1);
        x.focusOn(2);
        x.remove(1);
        Check.same("3: its announcement is gone", x.pending(), 0);
        x.create(0, 0, BUTTON);
        x.create(0, 0, BUTTON);
        Check.same("3: the focus is not that of the new node", x.focus(), -1);
        regionRemoved();
        removeKeepsOthers();
    }

    private static void removeKeepsOthers() {
        SpokenTree x = dialogs();
        x.setLabelledBy(3, 4);
        Check.add(x, 0, TABLE);
        Check.add(x, 7, ROW);
        Check.add(x, 8, CELL);
        Check.add(x, 8, CELL);
        x.read(9);
        x.focusOn(1);
        x.open(2);
        x.remove(5);
        Check.same("3: labelled by another", x.info(3, 6), 4);
        Check.same("3: another focus", x.focus(), 3);
        Check.same("3: another announcement", Check.queue(x), "0 3 -1 button");
        Check.same("3: another cell read last", x.readBeside(1), 10);
        Check.same("3: another remembered by a dialog", x.close(2), 1);
    }

    private static void regionRemoved() {
        SpokenTree x = new SpokenTree();
        Check.add(x, 0, GROUP);
        Check.add(x, 1, TEXT);
        Check.add(x, 0, TEXT);
        x.set(1, 3, 2);
        x.set(3, 3, 2);
        Check.text(x, 2, "in");
        Check.text(x, 3, "by");
        x.move(2, 0, 0);
        x.remove(1);
        Check.same("3: announcements of a removed region", Check.queue(x), "2 3 3 by");
        Check.same("3: its former child stays", x.nodes(), 0b1101);
    }

    private static void move() {
        SpokenTree x = new SpokenTree();
        for (int n = 0; n < 4; n++) {
            Check.add(x, 0, GROUP);
        }
        Check.same("4: forwards", x.move(1, 0, 3), 0);
        Check.same("4: order then", Check.documentOrder(x), "0 2 3 4 1");
        x.move(4, 0, 0);
        Check.same("4: backwards", Check.documentOrder(x), "0 4 2 3 1");
        x.move(2, 0, 1);
        Check.same("4: to where it is", Check.documentOrder(x), "0 4 2 3 1");
        Check.same("4: to another parent", x.move(3, 1, 0), 0);
        Check.same("4: from there", x.move(3, 2, 0), 1);
        Check.same("4: order at last", Check.documentOrder(x), "0 4 2 3 1");
        Check.same("4: parent", x.info(3, 1), 2);
        Check.refused("4: no node", x, OUTSIDE, () -> x.move(9, 0, 0));
        Check.refused("4: no parent", x, OUTSIDE, () -> x.move(1, 9, 0));
        Check.refused("4: root to no parent", x, OUTSIDE, () -> x.move(0, -1, 0));
        Check.refused("4: root", x, STATE, () -> x.move(0, 1, 0));
        Check.refused("4: into itself", x, STATE, () -> x.move(2, 2, 0));
        Check.refused("4: below itself", x, STATE, () -> x.move(2, 3, 0));
        Check.refused("4: below itself, no position", x, STATE, () -> x.move(2, 3, 7));
        Check.refused("4: position -1", x, ARGUMENT, () -> x.move(2, 0, -1));
        Check.refused("4: position 3 of 2 others", x, ARGUMENT, () -> x.move(2, 0, 3));
        Check.refused("4: position 2 of 1", x, ARGUMENT, () -> x.move(1, 2, 2));
        Check.same("4: behind all others", x.move(2, 0, 2), 0);
        Check.same("4: with all below", Check.documentOrder(x), "0 4 1 2 3");
    }

    private static void nodesInfoChild() {
        SpokenTree x = new SpokenTree();
        Check.add(x, 0, GROUP);
        Check.add(x, 1, TEXT);
        Check.add(x, 1, FIELD);
        Check.same("5: nodes()", x.nodes(), 15);
        x.remove(2);
        Check.same("5: with a gap", x.nodes(), 11);
        Check.same("6: root's parent", x.info(0, 1), -1);
        Check.same("6: root's position", x.info(0, 2), 0);
        x.create(1, 0, TEXT);
        Check.text(x, 2, "four");
        Check.label(x, 2, "three");
        x.setLabelledBy(2, 3);
        int[] values = {0, 1, 7, 2, 1};
        for (int what = 0; what < 5; what++) {
            x.set(2, what, values[what]);
        }
        int[] due = {TEXT, 1, 0, 0, 4, 5, 3, 0, 1, 7, 2, 1, 0, 0, 1};
        for (int what = 0; what < due.length; what++) {
            Check.same("6: info(2, " + what + ")", x.info(2, what), due[what]);
        }
        Check.same("6: position", x.info(3, 2), 1);
        Check.same("6: children", x.info(1, 3), 2);
        x.set(1, 0, 1);
        Check.same("6: hidden is out", x.info(1, 13), 1);
        Check.same("6: hidden is not shown", x.info(1, 14), 0);
        Check.same("6: below it nothing is out", x.info(2, 13), 0);
        Check.same("6: but not shown", x.info(2, 14), 0);
        Check.refused("6: no node", x, OUTSIDE, () -> x.info(4, 0));
        Check.refused("6: no node, no what", x, OUTSIDE, () -> x.info(-1, 15));
        Check.refused("6: what 15", x, ARGUMENT, () -> x.info(0, 15));
        Check.refused("6: what -1", x, ARGUMENT, () -> x.info(0, -1));
        Check.same("7: first child", x.child(1, 0), 2);
        Check.same("7: second child", x.child(1, 1), 3);
        Check.same("7: no third", x.child(1, 2), -1);
        Check.same("7: position -1", x.child(1, -1), -1);
        Check.same("7: far position", x.child(1, Integer.MAX_VALUE), -1);
        Check.refused("7: no node", x, OUTSIDE, () -> x.child(4, 0));
        Check.refused("7: node 24", x, OUTSIDE, () -> x.child(24, -1));
    }

    private static void infoOfDialogs() {
        SpokenTree x = new SpokenTree();
        Check.add(x, 0, DIALOG);
        Check.add(x, 1, TEXT);
        Check.same("6: a closed dialog is out", x.info(1, 13), 1);
        Check.same("6: its child is not shown", x.info(2, 14), 0);
        x.open(1);
        Check.same("6: open", x.info(1, 12), 1);
        Check.same("6: not out", x.info(1, 13), 0);
        Check.same("6: shown", x.info(2, 14), 1);
        x.set(1, 0, 1);
        Check.same("6: hidden and open", x.info(1, 12), 1);
        Check.same("6: hidden and out", x.info(1, 13), 1);
        x.set(1, 0, 0);
        x.close(1);
        Check.same("6: closed again", x.info(1, 12), 0);
    }

    private static void set() {
        SpokenTree x = new SpokenTree();
        Check.add(x, 0, BUTTON);
        int[] lowest = {0, 0, -1, 0, 0};
        int[] highest = {1, 1, 9, 3, 1};
        for (int n = 0; n < 5; n++) {
            int what = n;
            Check.same("8: at first " + what, x.set(1, what, highest[what]), 0);
            Check.same("8: previous " + what, x.set(1, what, lowest[what]), highest[what]);
            Check.same("8: value " + what, x.info(1, 7 + what), lowest[what]);
            Check.refused("8: too high " + what, x, ARGUMENT, () -> x.set(1, what, highest[what] + 1));
            Check.refused("8: too low " + what, x, ARGUMENT, () -> x.set(1, what, lowest[what] - 1));
        }
        Check.refused("8: what 5", x, ARGUMENT, () -> x.set(1, 5, 0));
        Check.refused("8: what -1", x, ARGUMENT, () -> x.set(1, -1, 0));
        Check.refused("8: no node", x, OUTSIDE, () -> x.set(2, 5, 0));
        Check.refused("8: root hidden", x, STATE, () -> x.set(0, 0, 1));
        Check.refused("8: root shown", x, STATE, () -> x.set(0, 0, 0));
        Check.refused("8: root hidden 2", x, ARGUMENT, () -> x.set(0, 0, 2));
        Check.same("8: root disabled", x.set(0, 1, 1), 0);
    }

    private static void setAnnounces() {
        SpokenTree x = new SpokenTree();
        x.set(0, 3, 2);
        Check.add(x, 0, BUTTON);
        Check.label(x, 1, "Go");
        x.set(1, 0, 0);
        Check.same("8: not hidden before", x.pending(), 0);
        x.set(1, 0, 1);
        x.set(1, 0, 1);
        Check.same("8: hiding is no change", x.pending(), 0);
        x.set(1, 0, 0);
        Check.same("8: showing is", Check.queue(x), "2 1 0 Go");
        x.silence();
        x.set(1, 1, 1);
        x.set(1, 1, 0);
        x.set(1, 4, 1);
        x.set(1, 4, 0);
        Check.same("8: other settings are none", x.pending(), 0);
        Check.add(x, 0, GROUP);
        x.move(1, 2, 0);
        x.set(1, 0, 1);
        x.set(2, 0, 1);
        x.set(1, 0, 0);
        Check.same("8: not shown, not announced", x.pending(), 0);
        x.set(2, 0, 0);
        Check.same("8: the part of what is shown", Check.queue(x), "2 2 0 Go");
        x.set(1, 0, 1);
        x.silence();
        Check.label(x, 1, "");
        x.set(1, 0, 0);
        Check.same("8: no words, no announcement", x.pending(), 0);
    }

    private static void setText() {
        SpokenTree x = new SpokenTree();
        x.set(0, 3, 3);
        Check.add(x, 0, TEXT);
        Check.add(x, 0, FIELD);
        Check.add(x, 0, BUTTON);
        Check.fill(x, "hi");
        Check.same("9: length", x.setText(1), 2);
        Check.same("9: text", Check.words(x, 1, 0), "hi");
        Check.same("9: announced", Check.queue(x), "1 1 0 hi");
        Check.same("9: the buffer stays", x.setText(2), 2);
        Check.same("9: a field is not announced", x.pending(), 1);
        Check.same("9: the field's text", Check.words(x, 2, 0), "hi");
        x.silence();
        x.setText(1);
        Check.same("9: the same text is no change", x.pending(), 0);
        Check.text(x, 1, "ho");
        Check.same("9: as long, but another", Check.queue(x), "1 1 0 ho");
        Check.text(x, 1, "");
        Check.same("9: no words, all as it was", Check.queue(x), "1 1 0 ho");
        Check.same("9: emptied", x.info(1, 4), 0);
        Check.label(x, 1, "L");
        Check.same("9: a text's label is no change", x.pending(), 1);
        Check.text(x, 1, "12345678");
        Check.same("9: eight signs", x.info(1, 4), 8);
        Check.same("9: its part is announced", Check.queue(x), "1 1 0 L");
        Check.refused("9: button", x, STATE, () -> x.setText(3));
        Check.refused("9: root", x, STATE, () -> x.setText(0));
        Check.refused("9: no node", x, OUTSIDE, () -> x.setText(4));
        for (int role = 0; role <= HEADER; role++) {
            int node = Check.add(x, 0, role);
            if (role != TEXT && role != FIELD) {
                Check.refused("9: role " + role, x, STATE, () -> x.setText(node));
            }
        }
    }

    private static void setLabel() {
        SpokenTree x = new SpokenTree();
        x.set(0, 3, 2);
        Check.add(x, 0, IMAGE);
        Check.add(x, 0, LINK);
        Check.fill(x, "sun");
        Check.same("10: length", x.setLabel(1), 3);
        Check.same("10: label", Check.words(x, 1, 1), "sun");
        Check.same("10: announced", Check.queue(x), "2 1 0 sun");
        Check.same("10: the buffer stays", x.setLabel(2), 3);
        Check.same("10: only images are announced", x.pending(), 1);
        x.silence();
        x.setLabel(1);
        Check.same("10: the same label is no change", x.pending(), 0);
        Check.label(x, 1, "");
        Check.same("10: no words", x.pending(), 0);
        Check.label(x, 0, "all");
        Check.same("10: the root's", x.info(0, 5), 3);
        Check.refused("10: no node", x, OUTSIDE, () -> x.setLabel(3));
        Check.refused("10: node -1", x, OUTSIDE, () -> x.setLabel(-1));
    }

    private static void setLabelledBy() {
        SpokenTree x = new SpokenTree();
        Check.add(x, 0, FIELD);
        Check.add(x, 0, TEXT);
        Check.same("11: none before", x.setLabelledBy(1, 2), -1);
        Check.same("11: info", x.info(1, 6), 2);
        Check.same("11: another", x.setLabelledBy(1, 0), 2);
        Check.same("11: none again", x.setLabelledBy(1, -1), 0);
        Check.same("11: still none", x.setLabelledBy(1, -1), -1);
        x.setLabelledBy(0, 1);
        x.setLabelledBy(1, 0);
        Check.same("11: in a ring", x.info(0, 6), 1);
        Check.refused("11: itself", x, ARGUMENT, () -> x.setLabelledBy(1, 1));
        Check.refused("11: no node", x, OUTSIDE, () -> x.setLabelledBy(3, 0));
        Check.refused("11: no other", x, OUTSIDE, () -> x.setLabelledBy(1, 3));
        Check.refused("11: by -2", x, OUTSIDE, () -> x.setLabelledBy(1, -2));
        Check.refused("11: node -1 by -1", x, OUTSIDE, () -> x.setLabelledBy(-1, -1));
        Check.refused("11: no node, itself", x, OUTSIDE, () -> x.setLabelledBy(3, 3));
    }

    private static void content() {
        SpokenTree x = new SpokenTree();
        int group = Check.add(x, 0, GROUP);
        int first = Check.add(x, group, TEXT);
        int image = Check.add(x, group, IMAGE);
        int inner = Check.add(x, group, GROUP);
        int field = Check.add(x, inner, FIELD);
        int dialog = Check.add(x, group, DIALOG);
        int text = Check.add(x, dialog, TEXT);
        Check.text(x, first, "one");
        Check.text(x, field, "two");
        Check.text(x, text, "three");
        Check.same("12: joined, closed dialogs left out", Check.words(x, group, 4), "one two");
        x.open(dialog);
        Check.same("12: with an open one", Check.words(x, group, 4), "one two three");
        Check.label(x, image, "pic");
        Check.same("12: the label of an image", Check.words(x, group, 4), "one pic two three");
        Check.same("12: but its content is empty", Check.words(x, image, 4), "");
        Check.label(x, inner, "in");
        Check.same("12: a label in place of content", Check.words(x, 0, 4), "one pic in three");
        Check.same("12: content has no own label", Check.words(x, inner, 4), "two");
        Check.same("12: part has", Check.words(x, inner, 5), "in");
        Check.same("12: part without label", Check.words(x, field, 5), "two");
        x.set(first, 0, 1);
        Check.same("12: hidden ones left out", Check.words(x, 0, 4), "pic in three");
        Check.same("12: own content all the same", Check.words(x, first, 4), "one");
        Check.add(x, first, TEXT);
        Check.add(x, image, TEXT);
        Check.text(x, 8, "deep");
        Check.text(x, 9, "deep");
        Check.same("12: children of a text are not in it", Check.words(x, first, 4), "one");
        Check.same("12: nor those of an image", Check.words(x, image, 4), "");
        Check.add(x, 0, TEXT);
        Check.add(x, 0, GROUP);
        Check.add(x, 0, FIELD);
        Check.same("12: empty ones leave no space", Check.words(x, 0, 4), "pic in three");
        Check.text(x, 12, "end");
        Check.same("12: nor between two", Check.words(x, 0, 4), "pic in three end");
    }

    private static void namesAndPhrases() {
        String[] ends = {"", "", " button", " link", " image", " edit t", " dialog", " table", "", "", " header"};
        for (int role = 0; role <= HEADER; role++) {
            SpokenTree x = new SpokenTree();
            int node = Check.add(x, 0, role);
            int kid = Check.add(x, node, TEXT);
            int other = Check.add(x, 0, GROUP);
            boolean hasText = role == TEXT || role == FIELD;
            Check.text(x, kid, "t");
            if (hasText) {
                x.setText(node);
            }
            boolean byContent = role == TEXT || role == BUTTON || role == LINK || role == CELL || role == HEADER;
            Check.same("12: name by content, role " + role, Check.words(x, node, 2), byContent ? "t" : "");
            String bare = byContent ? "t" + ends[role] : ends[role].trim();
            Check.same("12: phrase by content, role " + role, Check.words(x, node, 3), bare);
            Check.label(x, node, "L");
            Check.same("12: name by label, role " + role, Check.words(x, node, 2), "L");
            Check.same("12: phrase by label, role " + role, Check.words(x, node, 3), "L" + ends[role]);
            x.setLabelledBy(node, other);
            Check.same("12: name by an empty node, role " + role, Check.words(x, node, 2), "");
            Check.same("12: phrase then, role " + role, Check.words(x, node, 3), ends[role].trim());
            x.setLabelledBy(node, kid);
            x.set(kid, 0, 1);
            Check.label(x, kid, "no");
            x.set(node, 1, 1);
            Check.same("12: name by one that is out, role " + role, Check.words(x, node, 2), "t");
            Check.same("12: disabled, role " + role, Check.words(x, node, 3), "t" + ends[role] + " disabled");
        }
        SpokenTree x = new SpokenTree();
        x.set(0, 1, 1);
        Check.same("12: disabled alone", Check.words(x, 0, 3), "disabled");
    }

    private static void characterAndLength() {
        SpokenTree x = new SpokenTree();
        Check.add(x, 0, FIELD);
        Check.text(x, 1, "~!");
        Check.label(x, 1, "abc");
        String[] due = {"~!", "abc", "abc", "abc edit ~!", "~!", "abc"};
        for (int what = 0; what < due.length; what++) {
            Check.same("12: words " + what, Check.words(x, 1, what), due[what]);
            Check.same("13: length " + what, x.length(1, what), due[what].length());
            Check.same("12: index -1", x.character(1, what, -1), -1);
            Check.same("12: index behind", x.character(1, what, due[what].length()), -1);
            Check.same("12: index far", x.character(1, what, Integer.MAX_VALUE), -1);
            Check.same("12: index far ahead", x.character(1, what, Integer.MIN_VALUE), -1);
        }
        Check.same("13: without asking for a character", x.length(1, 3), 11);
        Check.same("13: of another node", x.length(0, 4), 3);
        Check.same("13: of an empty one", x.length(0, 0), 0);
        Check.refused("12: what 6", x, ARGUMENT, () -> x.character(1, 6, 0));
        Check.refused("12: what -1", x, ARGUMENT, () -> x.character(1, -1, 0));
        Check.refused("12: no node", x, OUTSIDE, () -> x.character(2, 6, 0));
        Check.refused("13: what 6", x, ARGUMENT, () -> x.length(1, 6));
        Check.refused("13: what -1", x, ARGUMENT, () -> x.length(1, -1));
        Check.refused("13: no node", x, OUTSIDE, () -> x.length(2, 6));
        longestWords();
    }

    private static void longestWords() {
        SpokenTree x = new SpokenTree();
        Check.fill(x, "abcdefgh");
        StringBuilder due = new StringBuilder();
        for (int n = 1; n < 24; n++) {
            x.setText(Check.add(x, 0, FIELD));
            due.append(n == 1 ? "" : " ").append("abcdefgh");
        }
        Check.same("12: longest content", Check.words(x, 0, 4), due.toString());
        x.setLabelledBy(1, 0);
        x.set(1, 1, 1);
        Check.same("12: longest phrase", Check.words(x, 1, 3), due + " edit abcdefgh disabled");
        x.setLabelledBy(2, 0);
        x.focusOn(2);
        x.speak();
        Check.same("28: longest words", Check.spoken(x), due + " edit abcdefgh");
        chain();
    }

    private static void chain() {
        SpokenTree x = new SpokenTree();
        for (int n = 0; n < 22; n++) {
            x.create(n, 0, GROUP);
        }
        x.create(22, 0, TEXT);
        Check.text(x, 23, "deep");
        Check.same("12: through 24 levels", Check.words(x, 0, 4), "deep");
        Check.same("14: the deepest", x.inOrder(23), 23);
        x.set(0, 3, 2);
        Check.same("23: from the deepest", x.region(23), 0);
        x.set(1, 0, 1);
        Check.same("6: shown from the deepest", x.info(23, 14), 0);
        x.setLabelledBy(23, 0);
        Check.same("4: out of the chain", x.move(23, 0, 0), 22);
        Check.same("3: the whole chain", x.remove(1), 22);
    }

    private static void inOrder() {
        SpokenTree x = new SpokenTree();
        Check.same("14: the root", x.inOrder(0), 0);
        Check.add(x, 0, GROUP);
        Check.add(x, 0, DIALOG);
        Check.add(x, 1, TEXT);
        Check.add(x, 2, TEXT);
        x.create(1, 0, TEXT);
        x.set(1, 0, 1);
        Check.same("14: also what is out", Check.documentOrder(x), "0 1 5 3 2 4");
        Check.same("14: place -1", x.inOrder(-1), -1);
        Check.same("14: place 6", x.inOrder(6), -1);
        Check.same("14: place 99", x.inOrder(99), -1);
    }

    private static void canFocus() {
        for (int role = 0; role <= HEADER; role++) {
            SpokenTree x = new SpokenTree();
            Check.add(x, 0, role);
            boolean due = role == BUTTON || role == LINK || role == FIELD;
            Check.same("15: role " + role, x.canFocus(1) ? 1 : 0, due ? 1 : 0);
        }
        SpokenTree x = new SpokenTree();
        Check.add(x, 0, GROUP);
        Check.add(x, 1, BUTTON);
        x.set(2, 1, 1);
        Check.no("15: disabled", x.canFocus(2));
        x.set(2, 1, 0);
        x.set(2, 2, -1);
        Check.no("15: tab number -1", x.canFocus(2));
        x.set(2, 2, 9);
        Check.yes("15: tab number 9", x.canFocus(2));
        x.set(1, 0, 1);
        Check.no("15: not shown", x.canFocus(2));
        x.set(1, 0, 0);
        x.set(1, 1, 1);
        Check.yes("15: the parent may be disabled", x.canFocus(2));
        Check.add(x, 0, DIALOG);
        Check.add(x, 3, LINK);
        Check.no("15: in a closed dialog", x.canFocus(4));
        x.open(3);
        Check.yes("15: in the trap", x.canFocus(4));
        Check.no("15: outside of the trap", x.canFocus(2));
        Check.refused("15: no node", x, OUTSIDE, () -> x.canFocus(5));
        Check.refused("15: node -1", x, OUTSIDE, () -> x.canFocus(-1));
    }

    private static void focusOrder() {
        SpokenTree x = new SpokenTree();
        for (int n = 0; n < 7; n++) {
            Check.add(x, 0, n == 6 ? TEXT : BUTTON + n % 2);
        }
        Check.same("16: document order", Check.focusOrder(x), "1 2 3 4 5 6");
        x.set(5, 2, 1);
        x.set(2, 2, 9);
        x.set(4, 2, 2);
        x.set(6, 2, 2);
        Check.same("16: tab numbers first", Check.focusOrder(x), "5 4 6 2 1 3");
        x.move(6, 0, 0);
        Check.same("16: equal ones in document order", Check.focusOrder(x), "5 6 4 2 1 3");
        x.set(3, 2, -1);
        x.set(2, 1, 1);
        Check.same("16: only who can", Check.focusOrder(x), "5 6 4 1");
        Check.same("16: place -1", x.focusOrder(-1), -1);
        Check.same("16: place 4", x.focusOrder(4), -1);
        Check.same("16: place 24", x.focusOrder(24), -1);
    }

    private static void focus() {
        SpokenTree x = new SpokenTree();
        Check.add(x, 0, BUTTON);
        Check.add(x, 0, BUTTON);
        Check.same("17: none at first", x.focus(), -1);
        x.focusOn(2);
        Check.same("17: then the node", x.focus(), 2);
        x.set(2, 1, 1);
        Check.same("17: none while it cannot", x.focus(), -1);
        x.set(2, 1, 0);
        Check.same("17: remembered all the same", x.focus(), 2);
    }

    private static void focusOn() {
        SpokenTree x = new SpokenTree();
        Check.add(x, 0, BUTTON);
        Check.add(x, 0, FIELD);
        Check.label(x, 1, "Go");
        Check.text(x, 2, "val");
        Check.same("18: none before", x.focusOn(1), -1);
        Check.same("18: announced", Check.queue(x), "0 1 -1 Go button");
        Check.same("18: the one before", x.focusOn(2), 1);
        Check.same("18: rank 0 replaces rank 0", Check.queue(x), "0 2 -1 edit val");
        Check.same("18: itself before", x.focusOn(2), 2);
        Check.same("18: still one", x.pending(), 1);
        x.set(2, 1, 1);
        Check.same("18: before, one that cannot now", x.focusOn(1), -1);
        Check.refused("18: cannot", x, STATE, () -> x.focusOn(2));
        Check.refused("18: root", x, STATE, () -> x.focusOn(0));
        Check.refused("18: no node", x, OUTSIDE, () -> x.focusOn(3));
        x.set(0, 3, 2);
        Check.add(x, 0, TEXT);
        Check.text(x, 3, "new");
        x.focusOn(1);
        Check.same("18: others stay ahead", Check.queue(x), "2 3 0 new|0 1 -1 Go button");
    }

    private static void step() {
        SpokenTree x = new SpokenTree();
        Check.same("19: nobody forwards", x.step(false), -1);
        Check.same("19: nobody backwards", x.step(true), -1);
        for (int n = 0; n < 3; n++) {
            Check.add(x, 0, BUTTON);
        }
        Check.same("19: no focus, forwards", x.step(false), 1);
        Check.same("19: next", x.step(false), 2);
        Check.same("19: last", x.step(false), 3);
        Check.same("19: around", x.step(false), 1);
        Check.same("19: around backwards", x.step(true), 3);
        Check.same("19: back", x.step(true), 2);
        Check.same("19: back to the first", x.step(true), 1);
        Check.same("19: and on", x.step(false), 2);
        Check.same("19: announced", Check.queue(x), "0 2 -1 button");
        x.set(2, 1, 1);
        Check.same("19: no focus, backwards", x.step(true), 3);
        x.set(3, 2, 5);
        Check.same("19: by tab number", x.step(false), 1);
        x.set(1, 1, 1);
        x.set(3, 1, 1);
        int before = x.pending();
        Check.same("19: nobody can", x.step(false), -1);
        Check.same("19: nothing announced", x.pending(), before);
        x.set(1, 1, 0);
        Check.same("19: what is remembered stays", x.focus(), 1);
        Check.same("19: alone", x.step(true), 1);
    }

    private static SpokenTree dialogs() {
        SpokenTree x = new SpokenTree();
        Check.add(x, 0, BUTTON);
        Check.add(x, 0, DIALOG);
        Check.add(x, 2, BUTTON);
        Check.add(x, 2, LINK);
        Check.add(x, 0, DIALOG);
        Check.add(x, 5, FIELD);
        return x;
    }

    private static void open() {
        SpokenTree x = dialogs();
        x.focusOn(1);
        x.set(4, 2, 1);
        Check.same("20: first of the order", x.open(2), 4);
        Check.same("20: announced", Check.queue(x), "0 4 -1 link");
        Check.same("20: the next dialog", x.open(5), 6);
        Check.same("20: the trap", x.trap(), 5);
        Check.refused("20: open", x, STATE, () -> x.open(2));
        Check.refused("20: no dialog", x, ARGUMENT, () -> x.open(1));
        Check.refused("20: root", x, ARGUMENT, () -> x.open(0));
        Check.refused("20: no node", x, OUTSIDE, () -> x.open(7));
        Check.refused("20: node -1", x, OUTSIDE, () -> x.open(-1));
        Check.same("20: it remembers the focus", x.close(5), 4);
        Check.same("20: and so does the first", x.close(2), 1);
        x.focusOn(1);
        x.open(2);
        x.close(2);
        x.set(1, 1, 1);
        Check.same("20: opened without focus", x.open(2), 4);
        x.set(1, 1, 0);
        Check.same("20: remembers none in place of the last", x.close(2), -1);
    }

    private static void openWithoutFocus() {
        SpokenTree x = dialogs();
        x.focusOn(1);
        x.set(3, 1, 1);
        x.set(4, 1, 1);
        x.silence();
        Check.same("20: nobody below", x.open(2), -1);
        Check.same("20: nothing announced", x.pending(), 0);
        x.set(2, 0, 1);
        Check.same("20: none is remembered", x.focus(), -1);
        x.set(2, 0, 0);
        Check.same("20: but the dialog remembers", x.close(2), 1);
        x.set(5, 0, 1);
        x.silence();
        Check.same("20: a hidden dialog", x.open(5), -1);
        Check.same("20: no trap", x.trap(), -1);
        Check.same("20: the others keep the order", Check.focusOrder(x), "1");
        Check.same("20: none focused", x.pending(), 0);
        Check.same("20: closed again", x.close(5), 1);
    }

    private static void close() {
        SpokenTree x = dialogs();
        Check.refused("21: closed", x, STATE, () -> x.close(2));
        Check.refused("21: no dialog", x, ARGUMENT, () -> x.close(1));
        Check.refused("21: no node", x, OUTSIDE, () -> x.close(7));
        Check.refused("21: node 24", x, OUTSIDE, () -> x.close(24));
        x.focusOn(1);
        x.open(2);
        x.silence();
        Check.same("21: back", x.close(2), 1);
        Check.same("21: announced", Check.queue(x), "0 1 -1 button");
        x.open(2);
        x.open(5);
        Check.same("21: the lower one first", x.close(2), 6);
        Check.same("21: the upper one: its focus is gone", x.close(5), -1);
        x.set(2, 0, 1);
        x.focusOn(1);
        x.open(2);
        x.focusOn(1);
        x.set(1, 1, 1);
        x.silence();
        Check.same("21: who cannot is not focused", x.close(2), -1);
        Check.same("21: nor announced", x.pending(), 0);
        x.set(1, 1, 0);
        Check.same("21: what is remembered stays", x.focus(), 1);
    }

    private static void trap() {
        SpokenTree x = dialogs();
        Check.add(x, 2, DIALOG);
        Check.add(x, 7, BUTTON);
        Check.same("22: none", x.trap(), -1);
        x.open(7);
        Check.same("22: in a closed one", x.trap(), -1);
        x.open(2);
        Check.same("22: opened last", x.trap(), 2);
        Check.same("22: with what is in the other", Check.focusOrder(x), "3 4 8");
        x.open(5);
        Check.same("22: the next", x.trap(), 5);
        x.set(5, 0, 1);
        Check.same("22: hidden, the one before", x.trap(), 2);
        x.set(5, 0, 0);
        Check.same("22: shown again", x.trap(), 5);
        x.close(2);
        x.open(2);
        Check.same("22: opened again, the last", x.trap(), 2);
        x.remove(2);
        Check.same("22: removed", x.trap(), 5);
        x.close(5);
        Check.same("22: none is left", x.trap(), -1);
    }

    private static void region() {
        SpokenTree x = new SpokenTree();
        Check.add(x, 0, GROUP);
        Check.add(x, 1, TEXT);
        Check.same("23: not given", x.region(2), -1);
        x.set(0, 3, 2);
        Check.same("23: an ancestor", x.region(2), 0);
        x.set(1, 3, 3);
        Check.same("23: the nearest", x.region(2), 1);
        Check.same("23: itself", x.region(1), 1);
        x.set(1, 3, 1);
        Check.same("23: off", x.region(2), -1);
        Check.same("23: off itself", x.region(1), -1);
        x.set(2, 3, 2);
        Check.same("23: on below off", x.region(2), 2);
        Check.text(x, 2, "a");
        Check.same("23: and announced", Check.queue(x), "2 2 2 a");
        x.set(2, 3, 0);
        Check.text(x, 2, "b");
        Check.same("23: quiet", x.pending(), 1);
        Check.refused("23: no node", x, OUTSIDE, () -> x.region(3));
        Check.refused("23: node -1", x, OUTSIDE, () -> x.region(-1));
    }

    private static void pendingAndAnnouncement() {
        SpokenTree x = new SpokenTree();
        x.set(0, 3, 3);
        Check.add(x, 0, TEXT);
        Check.add(x, 0, LINK);
        Check.text(x, 1, "abc");
        x.focusOn(2);
        Check.same("24: two", x.pending(), 2);
        int[] first = {1, 1, 0, 3};
        int[] second = {0, 2, -1, 4};
        for (int what = 0; what < 4; what++) {
            Check.same("25: first, " + what, x.announcement(0, what), first[what]);
            Check.same("25: second, " + what, x.announcement(1, what), second[what]);
            Check.same("25: third, " + what, x.announcement(2, what), -1);
            Check.same("25: position -1", x.announcement(-1, what), -1);
            Check.same("25: position 10", x.announcement(10, what), -1);
        }
        Check.refused("25: what 4", x, ARGUMENT, () -> x.announcement(0, 4));
        Check.refused("25: what -1", x, ARGUMENT, () -> x.announcement(0, -1));
        Check.refused("25: what 4, no position", x, ARGUMENT, () -> x.announcement(9, 4));
    }

    private static void announced() {
        SpokenTree x = new SpokenTree();
        x.set(0, 3, 2);
        Check.add(x, 0, TEXT);
        Check.text(x, 1, "ab");
        Check.same("26: first sign", x.announced(0, 0), 'a');
        Check.same("26: second sign", x.announced(0, 1), 'b');
        Check.same("26: no third", x.announced(0, 2), -1);
        Check.same("26: index -1", x.announced(0, -1), -1);
        Check.same("26: no position", x.announced(1, 0), -1);
        Check.same("26: position -1", x.announced(-1, 0), -1);
        Check.same("26: position 99", x.announced(99, 0), -1);
        Check.label(x, 1, "zz");
        Check.same("26: the words do not change any more", Check.announced(x, 0), "ab");
    }

    private static void changesReplaceChanges() {
        SpokenTree x = new SpokenTree();
        x.set(0, 3, 2);
        Check.add(x, 0, TEXT);
        Check.add(x, 0, TEXT);
        Check.text(x, 1, "a");
        Check.text(x, 2, "b");
        Check.text(x, 1, "c");
        Check.same("9: the new one behind", Check.queue(x), "2 2 0 b|2 1 0 c");
        x.set(0, 4, 1);
        Check.text(x, 2, "d");
        Check.same("9: atomic", Check.queue(x), "2 2 0 b|2 1 0 c|2 0 0 c d");
        Check.text(x, 1, "e");
        Check.same("9: atomic again", Check.queue(x), "2 2 0 b|2 1 0 c|2 0 0 e d");
        Check.label(x, 0, "all");
        Check.text(x, 1, "f");
        Check.same("9: the region's label", Check.announced(x, 2), "all");
        SpokenTree y = new SpokenTree();
        Check.add(y, 0, BUTTON);
        y.set(0, 3, 2);
        Check.label(y, 1, "B");
        y.focusOn(1);
        y.set(1, 0, 1);
        y.set(1, 0, 0);
        Check.same("8: an announcement of the focus stays", Check.queue(y), "0 1 -1 B button|2 1 0 B");
        y.focusOn(1);
        Check.same("18: an announcement of a change stays", Check.queue(y), "2 1 0 B|0 1 -1 B button");
    }

    private static void assertiveClearsItsRegion() {
        SpokenTree x = new SpokenTree();
        x.set(0, 3, 2);
        Check.add(x, 0, GROUP);
        Check.add(x, 1, TEXT);
        Check.add(x, 1, TEXT);
        Check.add(x, 0, TEXT);
        Check.add(x, 1, TEXT);
        x.set(1, 3, 2);
        Check.text(x, 2, "a");
        Check.text(x, 4, "o");
        Check.text(x, 3, "b");
        x.set(1, 3, 3);
        Check.text(x, 5, "c");
        Check.same("9: polite ones of the region go", Check.queue(x), "2 4 0 o|1 5 1 c");
        Check.text(x, 2, "d");
        Check.same("9: assertive ones stay", Check.queue(x), "2 4 0 o|1 5 1 c|1 2 1 d");
        x.set(1, 3, 2);
        Check.text(x, 2, "e");
        Check.same("9: the same target, whatever the rank", Check.queue(x), "2 4 0 o|1 5 1 c|2 2 1 e");
    }

    private static SpokenTree tenWaiting() {
        SpokenTree x = new SpokenTree();
        for (int n = 1; n <= 13; n++) {
            Check.add(x, 0, TEXT);
            x.set(n, 3, n == 2 || n == 5 ? 2 : 3);
        }
        for (int n = 1; n <= 10; n++) {
            Check.text(x, n, "" + (char) ('a' + n));
        }
        return x;
    }

    private static void fullQueue() {
        SpokenTree x = tenWaiting();
        Check.same("24: ten", x.pending(), 10);
        Check.text(x, 11, "x");
        Check.same("24: still ten", x.pending(), 10);
        Check.same("25: the first polite one was dropped", x.announcement(1, 1), 3);
        Check.same("25: the new one is the last", x.announcement(9, 1), 11);
        Check.text(x, 12, "y");
        Check.same("25: the second polite one was dropped", x.announcement(3, 1), 6);
        Check.text(x, 13, "z");
        Check.same("25: then the first assertive one", x.announcement(0, 1), 3);
        Check.text(x, 3, "again");
        Check.same("25: one replaced, none dropped", x.announcement(0, 1), 4);
        Check.same("24: ten all the time", x.pending(), 10);
        Check.add(x, 0, BUTTON);
        x.focusOn(14);
        Check.same("25: for the focus one is dropped", x.announcement(0, 1), 6);
        Check.same("25: it is the last", Check.announced(x, 9), "button");
        Check.text(x, 1, "more");
        Check.same("25: the focus is not dropped", x.announcement(8, 0), 0);
        Check.same("25: the next assertive one is", x.announcement(0, 1), 7);
        x.focusOn(14);
        Check.same("25: the focus replaced, none dropped", x.announcement(0, 1), 7);
    }

    private static void speak() {
        SpokenTree x = new SpokenTree();
        Check.same("27: nothing", x.speak(), -1);
        x.set(0, 3, 2);
        Check.add(x, 0, TEXT);
        Check.add(x, 0, TEXT);
        Check.add(x, 0, TEXT);
        Check.add(x, 0, BUTTON);
        x.set(2, 3, 3);
        x.set(3, 3, 3);
        Check.text(x, 1, "polite");
        Check.text(x, 2, "two");
        Check.text(x, 3, "three");
        x.focusOn(4);
        String[] due = {"button", "two", "three", "polite"};
        for (int n = 0; n < due.length; n++) {
            Check.same("27: length " + n, x.speak(), due[n].length());
            Check.same("27: words " + n, Check.spoken(x), due[n]);
            Check.same("27: left " + n, x.pending(), due.length - 1 - n);
        }
        Check.same("27: nothing again", x.speak(), -1);
        Check.same("27: what was spoken stays", Check.spoken(x), "polite");
        x.undo();
        x.undo();
        Check.same("27: back in the queue", Check.queue(x), "2 1 0 polite");
        Check.same("27: spoken before", Check.spoken(x), "three");
    }

    private static void spoken() {
        SpokenTree x = new SpokenTree();
        Check.add(x, 0, LINK);
        x.focusOn(1);
        Check.same("28: nothing yet", x.spoken(0), -1);
        x.speak();
        Check.same("28: first", x.spoken(0), 'l');
        Check.same("28: last", x.spoken(3), 'k');
        Check.same("28: behind", x.spoken(4), -1);
        Check.same("28: index -1", x.spoken(-1), -1);
        Check.same("28: index 999", x.spoken(999), -1);
        x.remove(1);
        Check.same("28: whatever happens to nodes", Check.spoken(x), "link");
    }

    private static void silence() {
        SpokenTree x = tenWaiting();
        Check.same("29: ten", x.silence(), 10);
        Check.same("29: empty", x.pending(), 0);
        Check.same("29: none", x.silence(), 0);
        x.undo();
        x.undo();
        Check.same("29: all back", x.pending(), 10);
        Check.same("29: with their words", Check.announced(x, 9), "k");
    }

    /** A table 1 with rows 2, 3, 4, a group between them; the cells are 6 to 14, row by row. */
    private static SpokenTree table(int... roles) {
        SpokenTree x = new SpokenTree();
        Check.add(x, 0, TABLE);
        for (int row = 0; row < 3; row++) {
            Check.add(x, 1, ROW);
        }
        x.create(1, 1, GROUP);
        for (int cell = 0; cell < 9; cell++) {
            int node = Check.add(x, 2 + cell / 3, roles[cell]);
            Check.label(x, node, "" + (char) ('A' + cell));
        }
        return x;
    }

    private static SpokenTree usualTable() {
        return table(HEADER, HEADER, HEADER, HEADER, CELL, CELL, HEADER, CELL, CELL);
    }

    private static void cellPlaceAndCellAt() {
        SpokenTree x = usualTable();
        for (int cell = 0; cell < 9; cell++) {
            Check.same("30: row", x.cellPlace(6 + cell, false), cell / 3);
            Check.same("30: column", x.cellPlace(6 + cell, true), cell % 3);
            Check.same("31: cell", x.cellAt(1, cell / 3, cell % 3), 6 + cell);
        }
        Check.same("30: a row is no cell", x.cellPlace(2, false), -1);
        Check.same("30: the table is none", x.cellPlace(1, true), -1);
        Check.same("30: nor the root", x.cellPlace(0, true), -1);
        int text = x.create(3, 0, TEXT);
        Check.same("30: a text in a row is none", x.cellPlace(text, true), -1);
        Check.same("30: and does not count", x.cellPlace(9, true), 0);
        x.set(9, 0, 1);
        x.set(2, 0, 1);
        Check.same("30: what is out counts", x.cellPlace(10, true), 1);
        Check.same("30: rows that are out too", x.cellPlace(10, false), 1);
        Check.same("31: what is out is there", x.cellAt(1, 1, 0), 9);
        Check.same("31: row -1", x.cellAt(1, -1, 0), -1);
        Check.same("31: column -1", x.cellAt(1, 0, -1), -1);
        Check.same("31: row 3", x.cellAt(1, 3, 0), -1);
        Check.same("31: column 3", x.cellAt(1, 0, 3), -1);
        Check.same("31: far", x.cellAt(1, Integer.MAX_VALUE, Integer.MIN_VALUE), -1);
        Check.same("31: a row is no table", x.cellAt(2, 0, 0), -1);
        Check.same("31: nor the root", x.cellAt(0, 0, 0), -1);
        x.move(3, 5, 0);
        Check.same("30: in a row of a group", x.cellPlace(10, true), -1);
        Check.same("30: and of no table", x.cellPlace(10, false), -1);
        Check.same("31: the next row moves up", x.cellAt(1, 1, 0), 12);
        x.move(14, 1, 0);
        Check.same("30: a cell without a row", x.cellPlace(14, true), -1);
        Check.refused("30: no node", x, OUTSIDE, () -> x.cellPlace(20, true));
        Check.refused("30: node -1", x, OUTSIDE, () -> x.cellPlace(-1, false));
        Check.refused("31: no node", x, OUTSIDE, () -> x.cellAt(20, 0, 0));
        Check.refused("31: node 24", x, OUTSIDE, () -> x.cellAt(24, -1, -1));
    }

    private static void header() {
        SpokenTree x = usualTable();
        Check.same("32: row header", x.header(11, false), 9);
        Check.same("32: column header", x.header(11, true), 8);
        Check.same("32: through a cell", x.header(14, true), 8);
        Check.same("32: a header has headers", x.header(8, false), 7);
        Check.same("32: the nearest above", x.header(12, true), 9);
        Check.same("32: none above", x.header(6, true), -1);
        Check.same("32: none before", x.header(12, false), -1);
        Check.same("32: not itself", x.header(9, false), -1);
        Check.same("32: of a row", x.header(3, true), -1);
        Check.same("32: of the root", x.header(0, false), -1);
        x.set(9, 0, 1);
        Check.same("32: also if it is out", x.header(11, false), 9);
        x.remove(8);
        Check.same("32: a short row above", x.header(14, true), -1);
        x.move(2, 1, 2);
        Check.same("32: in a row before its own", x.header(10, true), -1);
        x.move(4, 5, 0);
        Check.same("32: in a row of no table", x.header(14, false), -1);
        Check.refused("32: no node", x, OUTSIDE, () -> x.header(20, true));
        Check.refused("32: node -1", x, OUTSIDE, () -> x.header(-1, false));
    }

    private static void says(SpokenTree x, int cell, String due) {
        Check.same("33: length of " + cell, x.read(cell), due.length());
        Check.same("33: words of " + cell, Check.spoken(x), due);
    }

    private static void read() {
        SpokenTree x = usualTable();
        says(x, 10, "D B E");
        says(x, 11, "C F");
        says(x, 11, "F");
        says(x, 14, "G I");
        says(x, 10, "D B E");
        says(x, 6, "A");
        says(x, 7, "A B");
        Check.label(x, 14, "");
        says(x, 14, "G C");
        says(x, 14, "");
        Check.same("33: nothing spoken", x.spoken(0), -1);
        Check.add(x, 13, TEXT);
        Check.text(x, 15, "deep");
        Check.label(x, 13, "");
        says(x, 13, "B deep");
        Check.label(x, 12, "");
        says(x, 7, "A B");
        says(x, 13, "B deep");
        Check.same("33: the queue stays", x.pending(), 0);
        Check.refused("33: row", x, STATE, () -> x.read(3));
        Check.refused("33: root", x, STATE, () -> x.read(0));
        Check.refused("33: no node", x, OUTSIDE, () -> x.read(20));
        x.move(13, 1, 0);
        Check.refused("33: cell without a row", x, STATE, () -> x.read(13));
        x.move(4, 5, 0);
        Check.refused("33: row without a table", x, STATE, () -> x.read(12));
        x.set(9, 0, 1);
        x.set(10, 0, 1);
        says(x, 10, "D B E");
    }

    private static void readAfterMoves() {
        SpokenTree x = usualTable();
        says(x, 10, "D B E");
        x.remove(10);
        Check.same("33: the cell that took its place", x.header(11, true), 7);
        says(x, 11, "D B F");
        x.move(11, 4, 0);
        says(x, 14, "G I");
        x.move(14, 5, 0);
        says(x, 13, "G C H");
        x.move(4, 0, 0);
        x.move(4, 1, 0);
        says(x, 13, "H");
        Check.refused("34: none below its place", x, STATE, () -> x.readBeside(2));
    }

    private static void readBeside() {
        SpokenTree x = usualTable();
        Check.refused("34: none remembered", x, STATE, () -> x.readBeside(1));
        x.read(10);
        Check.same("34: right", x.readBeside(1), 11);
        Check.same("34: its words", Check.spoken(x), "C F");
        Check.refused("34: none to the right", x, STATE, () -> x.readBeside(1));
        Check.same("34: below", x.readBeside(3), 14);
        Check.refused("34: none below", x, STATE, () -> x.readBeside(3));
        Check.same("34: left", x.readBeside(0), 13);
        Check.same("34: left again", x.readBeside(0), 12);
        Check.refused("34: none to the left", x, STATE, () -> x.readBeside(0));
        Check.same("34: above", x.readBeside(2), 9);
        Check.same("34: above again", x.readBeside(2), 6);
        Check.refused("34: none above", x, STATE, () -> x.readBeside(2));
        Check.refused("34: direction 4", x, ARGUMENT, () -> x.readBeside(4));
        Check.refused("34: direction -1", x, ARGUMENT, () -> x.readBeside(-1));
        x.read(8);
        x.remove(11);
        Check.refused("34: a short row is not jumped over", x, STATE, () -> x.readBeside(3));
        x.read(10);
        x.move(3, 5, 0);
        Check.refused("34: no cell of a table any more", x, STATE, () -> x.readBeside(0));
        Check.refused("34: that and direction", x, ARGUMENT, () -> x.readBeside(4));
        x.move(3, 1, 0);
        Check.same("34: remembered all the same", x.readBeside(0), 9);
        x.remove(9);
        Check.refused("34: removed", x, STATE, () -> x.readBeside(1));
        x.create(3, 0, CELL);
        Check.refused("34: its number used again", x, STATE, () -> x.readBeside(1));
    }

    private static void typeAndClearText() {
        SpokenTree x = new SpokenTree();
        Check.same("35: lowest", x.type(33), 1);
        Check.same("35: highest", x.type(126), 2);
        Check.refused("35: 32", x, ARGUMENT, () -> x.type(32));
        Check.refused("35: 127", x, ARGUMENT, () -> x.type(127));
        Check.refused("35: 65 + 65536", x, ARGUMENT, () -> x.type(65 + 65536));
        for (int n = 3; n <= 8; n++) {
            Check.same("35: length", x.type('a' + n), n);
        }
        Check.refused("35: full", x, STATE, () -> x.type(65));
        Check.refused("35: full and 32", x, ARGUMENT, () -> x.type(32));
        x.setLabel(0);
        Check.same("35: the signs", Check.words(x, 0, 1), "!~defghi");
        Check.same("36: length before", x.clearText(), 8);
        Check.same("36: empty", x.clearText(), 0);
        Check.same("36: the label stays", x.info(0, 5), 8);
        Check.same("35: from the start", x.type(65), 1);
        x.setLabel(0);
        Check.same("35: one sign", Check.words(x, 0, 1), "A");
    }

    private static void undo() {
        SpokenTree x = new SpokenTree();
        Check.refused("37: none", x, STATE, x::undo);
        for (int n = 1; n <= 7; n++) {
            Check.add(x, 0, GROUP);
        }
        for (int left = 4; left >= 0; left--) {
            Check.same("37: left", x.undo(), left);
            Check.same("37: nodes", x.nodes(), (1 << left + 3) - 1);
        }
        Check.refused("37: five at most", x, STATE, x::undo);
        Check.fill(x, "abc");
        Check.refused("37: typing makes no record", x, STATE, x::undo);
        x.setLabel(0);
        x.clearText();
        x.type(90);
        x.undo();
        Check.same("37: the buffer is not restored", x.setLabel(0), 1);
        x.undo();
        try {
            x.remove(0);
        } catch (IllegalStateException e) {
            Check.refused("37: a call that throws makes no record", x, STATE, x::undo);
        }
    }

    private static void undoRestoresAll() {
        SpokenTree x = dialogs();
        x.focusOn(1);
        x.open(5);
        x.open(2);
        x.close(2);
        x.undo();
        Check.same("37: the trap", x.trap(), 2);
        Check.same("37: the focus", x.focus(), 3);
        Check.same("37: what the dialog remembers", x.close(2), 6);
        x.undo();
        x.remove(2);
        x.undo();
        Check.same("37: opened last still", x.trap(), 2);
        Check.same("37: remembered still", x.close(2), 6);
        x.undo();
        x.close(5);
        x.open(5);
        x.undo();
        x.undo();
        Check.same("37: the order of opening", x.trap(), 2);
        SpokenTree y = usualTable();
        y.read(10);
        y.readBeside(1);
        y.undo();
        Check.same("37: spoken", Check.spoken(y), "D B E");
        Check.same("37: read last", y.readBeside(3), 13);
        y.move(2, 1, 3);
        y.setLabel(0);
        String before = Check.shown(y);
        y.remove(1);
        y.undo();
        Check.same("37: texts, labels, places", Check.shown(y).replaceAll("-?\\d+$", ""),
                before.replaceAll("-?\\d+$", ""));
    }

    /** Each of them leaves one record more, also where nothing changes, and undo() takes back all of it. */
    private static void undoableCalls() {
        undoable("create", x -> x.create(0, 0, 1));
        undoable("remove", x -> x.remove(1));
        undoable("move", x -> x.move(3, 2, 0));
        undoable("move to its place", x -> x.move(1, 0, x.info(1, 2)));
        undoable("set", x -> x.set(3, 0, 0));
        undoable("set to the same", x -> x.set(1, 1, 0));
        undoable("setText", x -> x.setText(4));
        undoable("setLabel", x -> x.setLabel(5));
        undoable("setLabel of the root", x -> x.setLabel(0));
        undoable("setLabelledBy", x -> x.setLabelledBy(1, 4));
        undoable("focusOn", x -> x.focusOn(2));
        undoable("step", x -> x.step(true));
        undoable("open", x -> x.open(6));
        undoable("close", x -> x.close(7));
        undoable("speak", x -> x.speak());
        undoable("silence", x -> x.silence());
        undoable("read", x -> x.read(10));
        undoable("readBeside", x -> x.readBeside(1));
        SpokenTree x = new SpokenTree();
        x.step(false);
        x.step(true);
        x.speak();
        x.silence();
        Check.same("37: records where nothing changes", x.undo(), 3);
    }

    private interface Call {
        int on(SpokenTree x);
    }

    private static void undoable(String name, Call call) {
        SpokenTree x = everything();
        x.undo();
        String before = Check.shown(x);
        String without = before.replaceAll("-?\\d+$", "");
        call.on(x);
        Check.same("37: one record more by " + name, x.undo(), 4);
        Check.same("37: as before " + name, Check.shown(x), before);
        // A record that shares something with the present would show at the second time.
        call.on(x);
        call.on(everything());
        x.undo();
        Check.same("37: as before the second " + name, Check.shown(x).replaceAll("-?\\d+$", ""), without);
    }

    /** Five records, of which the last one is the tree's that is meant. */
    private static SpokenTree everything() {
        SpokenTree x = new SpokenTree();
        x.set(0, 3, 2);
        int[] roles = {BUTTON, LINK, BUTTON, TEXT, IMAGE, DIALOG, DIALOG, TABLE};
        for (int role : roles) {
            Check.add(x, 0, role);
        }
        Check.add(x, 8, ROW);
        Check.add(x, 9, CELL);
        Check.add(x, 9, HEADER);
        Check.label(x, 10, "cell");
        Check.label(x, 11, "head");
        Check.label(x, 3, "hid");
        Check.text(x, 4, "old");
        Check.label(x, 5, "pic");
        x.set(3, 0, 1);
        x.open(7);
        x.set(7, 0, 1);
        x.focusOn(1);
        x.read(10);
        Check.fill(x, "new");
        x.set(0, 1, 1);
        return x;
    }

    private static void checksum() {
        SpokenTree x = new SpokenTree();
        long h = 18379;
        // nodes(), the root with info() 0 to 14, focus, trap, queue, buffer, records.
        long[] numbers = {1, 0, 0, -1, 0, 0, 0, 0, -1, 0, 0, 0, 0, 0, 0, 0, 1, -1, -1, 0, 0, 0};
        for (long v : numbers) {
            h = 31 * h + v;
        }
        Check.same("38: a new object", x.checksum(), h);
        x.type(65);
        Check.same("38: the buffer's length", x.checksum(), h + 31);
        x.clearText();
        x.type(66);
        Check.same("38: but not its signs", x.checksum(), h + 31);
        x.silence();
        Check.same("38: the records", x.checksum(), h + 32);
        Check.same("38: asked twice", x.checksum(), h + 32);
        fullChecksum();
    }

    private static void fullChecksum() {
        SpokenTree x = new SpokenTree();
        x.create(0, 0, BUTTON);
        x.create(0, 0, BUTTON);
        x.set(0, 3, 2);
        x.set(1, 2, 1);
        Check.label(x, 1, "G");
        x.focusOn(1);
        x.speak();
        x.step(false);
        String[] phrases = {"", "button", "G button"};
        int[] order = {0, 2, 1};
        long h = 31 * 18379L + 7;
        for (int place = 0; place < 3; place++) {
            h = 31 * h + order[place];
            for (int what = 0; what <= 14; what++) {
                h = 31 * h + x.info(order[place], what);
            }
            for (char sign : phrases[place].toCharArray()) {
                h = 31 * h + sign;
            }
        }
        // The focus, the trap, the order of focus, one announcement.
        long[] numbers = {2, -1, 1, 2, 1, 0, 2, -1, 6};
        for (long v : numbers) {
            h = 31 * h + v;
        }
        for (char sign : "buttonG button".toCharArray()) {
            h = 31 * h + sign;
        }
        Check.same("38: with all of it", x.checksum(), 31 * (31 * h + 1) + 5);
    }
}
