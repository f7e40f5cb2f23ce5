/** Boundary cases of promises 8 to 13: settings, texts, labels and the words that nodes make. */
final class WordsBoundaries extends Boundaries {
    private static final String[] ROLE_WORDS =
            {"", "", "button", "link", "image", "edit", "dialog", "table", "", "", "header"};

    /** Just below and above, all is refused; at the bounds the value is taken. */
    private static void range(int what, int lowest, int highest) {
        refused(ARGUMENT, Boundaries::busy, (x, n) -> x.set(4, what, n), lowest - 1, highest + 1, LOWEST, HIGHEST);
        SpokenTree x = tree(0, TEXT);
        same("at first", x.info(1, 7 + what), 0);
        int previous = 0;
        for (int value = lowest; value <= highest; value++) {
            same("previous value", x.set(1, what, value), previous);
            same("value", x.info(1, 7 + what), value);
            previous = value;
        }
        same("back to the lowest", x.set(1, what, lowest), highest);
        same("the lowest again", x.set(1, what, lowest), lowest);
    }

    private static SpokenTree live(int value, int... parentsAndRoles) {
        SpokenTree x = tree(parentsAndRoles);
        x.set(0, LIVE, value);
        return x;
    }

    // ---- 8, set

    @Says(promise = 8, value = "0 hidden: 0 (at first) or 1")
    static void hiddenFromZeroToOne() {
        range(HIDDEN, 0, 1);
    }

    @Says(promise = 8, value = "1 disabled: 0 (at first) or 1")
    static void disabledFromZeroToOne() {
        range(DISABLED, 0, 1);
    }

    @Says(promise = 8, value = "2 tab number: -1 to 9 (0 at first)")
    static void tabNumberFromMinusOneToNine() {
        range(TAB_NUMBER, -1, 9);
    }

    @Says(promise = 8, value = "3 live: 0 not given (at first), 1 off, 2 polite, 3 assertive")
    static void liveFromZeroToThree() {
        range(LIVE, 0, 3);
    }

    @Says(promise = 8, value = "4 atomic: 0 (at first) or 1")
    static void atomicFromZeroToOne() {
        range(ATOMIC, 0, 1);
    }

    @Says(promise = 8, value = "`what`: the setting, 0 to 4")
    static void settingsFromZeroToFour() {
        for (int what = 0; what <= 4; what++) {
            SpokenTree x = tree(0, GROUP);
            same("setting " + what, x.set(1, what, 1), 0);
            for (int other = 0; other <= 4; other++) {
                same("only that one", x.info(1, 7 + other), other == what ? 1 : 0);
            }
        }
        refused(ARGUMENT, Boundaries::busy, (x, n) -> x.set(1, n, 0), -1, 5, 6, LOWEST, HIGHEST);
    }

    @Says(promise = 8, value = "`value`: the new value")
    static void valuesOfEachNode() {
        SpokenTree x = full(TEXT);
        x.set(1, TAB_NUMBER, 9);
        x.set(23, TAB_NUMBER, -1);
        x.set(0, TAB_NUMBER, 1);
        for (int node = 0; node < 24; node++) {
            same("node " + node, x.info(node, 9), node == 0 ? 1 : node == 1 ? 9 : node == 23 ? -1 : 0);
        }
    }

    @Says(promise = 8, value = "Throws `IllegalArgumentException` if what or value is out of range")
    static void whatOrValueBeyond() {
        refused(ARGUMENT, Boundaries::busy, x -> x.set(1, -1, 0));
        refused(ARGUMENT, Boundaries::busy, x -> x.set(1, 5, 0));
        int[] highest = {1, 1, 9, 3, 1};
        for (int n = 0; n < 5; n++) {
            int what = n;
            refused(ARGUMENT, Boundaries::busy, x -> x.set(1, what, highest[what] + 1));
            refused(ARGUMENT, Boundaries::busy, x -> x.set(1, what, what == TAB_NUMBER ? -2 : -1));
            same("at the bound", told(busy(), x -> x.set(1, what, highest[what])), "nothing");
        }
    }

    @Says(promise = 8, value = "Throws `IllegalStateException` if node is the root and what is 0")
    static void theRootIsNeverHidden() {
        refused(STATE, Boundaries::busy, x -> x.set(0, HIDDEN, 1));
        refused(STATE, Boundaries::busy, x -> x.set(0, HIDDEN, 0));
        refused(STATE, SpokenTree::new, x -> x.set(0, HIDDEN, 0));
        for (int what = 1; what <= 4; what++) {
            same("the root's setting " + what, new SpokenTree().set(0, what, 1), 0);
        }
        same("node 1 hidden", tree(0, GROUP).set(1, HIDDEN, 1), 0);
        same("node 23 hidden", full(GROUP).set(23, HIDDEN, 1), 0);
    }

    @Says(promise = 8, value = "Throws `IndexOutOfBoundsException` if there is no such node")
    static void noNodeToSet() {
        noSuchNode((x, node) -> x.set(node, DISABLED, 1));
        noSuchNode((x, node) -> x.set(node, HIDDEN, 0));
    }

    @Says(promise = 8, value = "If several exceptions of a method apply, the one that is listed first is thrown.")
    static void setThrowsInOrder() {
        refused(OUTSIDE, Boundaries::busy, x -> x.set(24, 5, 0));
        refused(OUTSIDE, Boundaries::busy, x -> x.set(-1, 0, 2));
        refused(ARGUMENT, Boundaries::busy, x -> x.set(0, HIDDEN, 2));
        refused(ARGUMENT, Boundaries::busy, x -> x.set(0, HIDDEN, -1));
        refused(ARGUMENT, Boundaries::busy, x -> x.set(0, -1, 0));
    }

    @Says(promise = 8, value = "If hidden becomes 0 that was 1 before, this is a change of the node, which is announced.")
    static void onlyFromOneToZero() {
        for (int before = 0; before <= 1; before++) {
            for (int then = 0; then <= 1; then++) {
                SpokenTree x = live(2, 0, BUTTON);
                Check.label(x, 1, "Go");
                x.set(1, HIDDEN, before);
                x.set(1, HIDDEN, then);
                same("from " + before + " to " + then, Check.queue(x), before == 1 && then == 0 ? "2 1 0 Go" : "");
            }
        }
        for (int what = 1; what <= 4; what++) {
            SpokenTree x = live(2, 0, BUTTON);
            Check.label(x, 1, "Go");
            x.set(1, what, 1);
            x.set(1, what, 0);
            same("setting " + what, x.pending(), 0);
        }
    }

    @Says(promise = 8, value = "A change of a node is announced like this, if it is shown and not quiet")
    static void shownAndNotQuiet() {
        SpokenTree x = live(2, 0, GROUP, 1, BUTTON, 0, DIALOG);
        Check.label(x, 2, "Go");
        Check.label(x, 3, "Dlg");
        x.set(1, HIDDEN, 1);
        x.set(2, HIDDEN, 1);
        x.set(2, HIDDEN, 0);
        same("in a hidden node", x.pending(), 0);
        x.set(3, HIDDEN, 1);
        x.set(3, HIDDEN, 0);
        same("a closed dialog", x.pending(), 0);
        x.set(1, HIDDEN, 0);
        same("then shown", Check.queue(x), "2 1 0 Go");
        x.open(3);
        x.set(3, HIDDEN, 1);
        x.set(3, HIDDEN, 0);
        same("an open dialog", Check.queue(x), "2 1 0 Go|2 3 0 Dlg");
        for (int value = 0; value <= 1; value++) {
            SpokenTree y = live(value, 0, BUTTON);
            Check.label(y, 1, "Go");
            y.set(1, HIDDEN, 1);
            y.set(1, HIDDEN, 0);
            same("quiet by " + value, y.pending(), 0);
        }
    }

    @Says(promise = 8, value = "Returns the previous value.")
    static void setReturnsThePreviousValue() {
        SpokenTree x = tree(0, GROUP);
        int[] values = {-1, 9, 9, 0, 1, -1};
        int previous = 0;
        for (int value : values) {
            same("tab number", x.set(1, TAB_NUMBER, value), previous);
            previous = value;
        }
        same("of another node", x.set(0, TAB_NUMBER, 5), 0);
    }

    @Says(promise = 8, value = "Changes a setting.")
    static void onlyThatNode() {
        SpokenTree x = full(GROUP);
        x.set(12, DISABLED, 1);
        for (int node = 0; node < 24; node++) {
            same("node " + node, x.info(node, 8), node == 12 ? 1 : 0);
        }
    }

    @Says(promise = 8, value = "Undoable.")
    static void setIsUndoable() {
        for (int n = 0; n < 5; n++) {
            int what = n;
            undoable(Boundaries::busy, x -> x.set(4, what, 1));
            undoable(Boundaries::busy, x -> x.set(4, what, 0));
        }
        undoable(() -> {
            SpokenTree x = busy();
            x.set(4, HIDDEN, 1);
            return x;
        }, x -> x.set(4, HIDDEN, 0));
    }

    // ---- 9, setText

    @Says(promise = 9, value = "It has a text and a label, each of at most 8 characters with codes from 33 to 126")
    static void textsFromNoneToEight() {
        for (String words : new String[] {"", "!", "~", "!~", "1234567", "12345678", "~~~~~~~~"}) {
            SpokenTree x = tree(0, TEXT, 0, FIELD);
            Check.text(x, 1, words);
            Check.text(x, 2, words);
            same("text", Check.words(x, 1, 0), words);
            same("field", Check.words(x, 2, 0), words);
        }
    }

    @Says(promise = 9, value = "Makes the buffer the text of a node; the buffer stays.")
    static void theBufferStaysAfterSetText() {
        SpokenTree x = tree(0, TEXT, 0, FIELD);
        Check.fill(x, "12345678");
        same("first", x.setText(1), 8);
        same("second", x.setText(2), 8);
        same("typing on", told(x, y -> y.type('9')), "IllegalStateException");
        same("buffer", x.clearText(), 8);
        same("text", Check.words(x, 1, 0), "12345678");
        x.type('A');
        same("typing leaves it", Check.words(x, 1, 0), "12345678");
        same("the second", Check.words(x, 2, 0), "12345678");
        same("shorter", x.setText(1), 1);
        same("nothing of the longer one is left", Check.words(x, 1, 0), "A");
    }

    @Says(promise = 9, value = "Returns the length of the text then.")
    static void setTextReturnsTheLength() {
        SpokenTree x = tree(0, TEXT);
        same("empty", x.setText(1), 0);
        for (int n = 1; n <= 8; n++) {
            x.type('a');
            same("length", x.setText(1), n);
            same("info", x.info(1, 4), n);
        }
        x.clearText();
        same("empty again", x.setText(1), 0);
    }

    @Says(promise = 9, value = "If the node is a text, and had another text before, this is a change of it, which is announced.")
    static void onlyAnotherText() {
        String[][] rows = {{"", "", ""}, {"", "a", "2 1 0 a"}, {"a", "a", ""}, {"a", "b", "2 1 0 b"}, {"a", "", ""},
            {"12345678", "12345678", ""}, {"12345678", "12345679", "2 1 0 12345679"},
            {"12345678", "02345678", "2 1 0 02345678"}, {"1234567", "12345678", "2 1 0 12345678"},
            {"12345678", "1234567", "2 1 0 1234567"}};
        for (String[] row : rows) {
            SpokenTree x = live(2, 0, TEXT, 0, FIELD);
            Check.text(x, 1, row[0]);
            Check.text(x, 2, row[0]);
            x.silence();
            Check.text(x, 2, row[1]);
            same("a field from " + row[0] + " to " + row[1], x.pending(), 0);
            Check.text(x, 1, row[1]);
            same("from " + row[0] + " to " + row[1], Check.queue(x), row[2]);
        }
    }

    @Says(promise = 9, value = "the words are the part of the target; if they are empty, nothing happens.")
    static void noWordsNothingHappens() {
        SpokenTree x = live(2, 0, TEXT, 0, TEXT);
        Check.text(x, 1, "a");
        Check.text(x, 2, "b");
        x.set(0, LIVE, 3);
        Check.text(x, 1, "");
        same("all stay", Check.queue(x), "2 1 0 a|2 2 0 b");
        same("the text is empty", x.info(1, 4), 0);
        Check.label(x, 1, "L");
        Check.text(x, 1, "c");
        same("the label, if there is one", Check.queue(x), "1 1 0 L");
        Check.text(x, 1, "");
        same("also if the text is empty", Check.queue(x), "1 1 0 L");
        SpokenTree y = live(2, 0, GROUP, 1, TEXT);
        y.set(1, LIVE, 2);
        y.set(1, ATOMIC, 1);
        Check.text(y, 2, "a");
        Check.text(y, 2, "");
        same("an atomic region without words", Check.queue(y), "2 1 1 a");
    }

    @Says(promise = 9, value = "Throws `IllegalStateException` if it is neither a text nor a field")
    static void onlyTextsAndFields() {
        for (int n = GROUP; n <= HEADER; n++) {
            int role = n;
            if (role == TEXT || role == FIELD) {
                same("role " + role, told(tree(0, role), x -> x.setText(1)), "nothing");
            } else {
                refused(STATE, () -> {
                    SpokenTree x = tree(0, role);
                    x.set(1, TAB_NUMBER, 1);
                    Check.fill(x, "abc");
                    return x;
                }, x -> x.setText(1));
            }
        }
        refused(STATE, Boundaries::busy, x -> x.setText(0));
    }

    @Says(promise = 9, value = "Throws `IndexOutOfBoundsException` if there is no such node")
    static void noNodeForText() {
        noSuchNode(SpokenTree::setText);
    }

    @Says(promise = 9, value = "Undoable.")
    static void setTextIsUndoable() {
        undoable(Boundaries::busy, x -> x.setText(4));
        undoable(Boundaries::busy, x -> x.setText(3));
        undoable(() -> {
            SpokenTree x = busy();
            x.clearText();
            return x;
        }, x -> x.setText(4));
        undoable(() -> {
            SpokenTree x = busy();
            x.setText(4);
            return x;
        }, x -> x.setText(4));
    }

    // ---- 10, setLabel

    @Says(promise = 10, value = "It has a text and a label, each of at most 8 characters with codes from 33 to 126")
    static void labelsFromNoneToEight() {
        for (String words : new String[] {"", "!", "~", "!~", "1234567", "12345678", "~~~~~~~~"}) {
            SpokenTree x = full(TEXT);
            Check.label(x, 0, words);
            Check.label(x, 23, words);
            same("the root's", Check.words(x, 0, 1), words);
            same("node 23's", Check.words(x, 23, 1), words);
            same("node 22's", Check.words(x, 22, 1), "");
        }
    }

    @Says(promise = 10, value = "Makes the buffer the label of a node; the buffer stays.")
    static void theBufferStaysAfterSetLabel() {
        for (int role = GROUP; role <= HEADER; role++) {
            SpokenTree x = tree(0, role, 0, role);
            Check.fill(x, "12345678");
            same("role " + role, x.setLabel(1), 8);
            same("once more", x.setLabel(2), 8);
            same("buffer", x.clearText(), 8);
            same("label", Check.words(x, 1, 1), "12345678");
            x.type('A');
            same("typing leaves it", Check.words(x, 2, 1), "12345678");
            same("shorter", x.setLabel(1), 1);
            same("nothing of the longer one is left", Check.words(x, 1, 1), "A");
        }
    }

    @Says(promise = 10, value = "Returns the length of the label then.")
    static void setLabelReturnsTheLength() {
        SpokenTree x = new SpokenTree();
        same("empty", x.setLabel(0), 0);
        for (int n = 1; n <= 8; n++) {
            x.type('a');
            same("length", x.setLabel(0), n);
            same("info", x.info(0, 5), n);
        }
        x.clearText();
        same("empty again", x.setLabel(0), 0);
    }

    @Says(promise = 10, value = "If the node is an image, and had another label before, this is a change of it, which is announced.")
    static void onlyAnotherLabelOfAnImage() {
        String[][] rows = {{"", "", ""}, {"", "a", "2 1 0 a"}, {"a", "a", ""}, {"a", "b", "2 1 0 b"}, {"a", "", ""},
            {"12345678", "12345678", ""}, {"12345678", "12345679", "2 1 0 12345679"},
            {"1234567", "12345678", "2 1 0 12345678"}};
        for (int role = GROUP; role <= HEADER; role++) {
            for (String[] row : rows) {
                SpokenTree x = live(2, 0, role);
                Check.label(x, 1, row[0]);
                x.silence();
                Check.label(x, 1, row[1]);
                same("role " + role + " from " + row[0] + " to " + row[1], Check.queue(x),
                        role == IMAGE ? row[2] : "");
            }
        }
    }

    @Says(promise = 10, value = "Throws `IndexOutOfBoundsException` if there is no such node")
    static void noNodeForLabel() {
        noSuchNode(SpokenTree::setLabel);
    }

    @Says(promise = 10, value = "Undoable.")
    static void setLabelIsUndoable() {
        undoable(Boundaries::busy, x -> x.setLabel(0));
        undoable(Boundaries::busy, x -> x.setLabel(8));
        undoable(() -> live(3, 0, IMAGE), x -> x.setLabel(1));
        undoable(() -> {
            SpokenTree x = live(3, 0, IMAGE);
            Check.fill(x, "sun");
            return x;
        }, x -> x.setLabel(1));
    }

    // ---- 11, setLabelledBy

    @Says(promise = 11, value = "It can be labelled by another node.")
    static void anyOtherNode() {
        SpokenTree x = chain(TEXT);
        for (int by = 1; by < 24; by++) {
            same("the root, by " + by, x.setLabelledBy(0, by), by == 1 ? NONE : by - 1);
            same("info", x.info(0, 6), by);
        }
        same("below it, by the root", x.setLabelledBy(23, 0), NONE);
        same("by the one above", x.setLabelledBy(23, 22), 0);
        same("in a ring", x.setLabelledBy(22, 23), NONE);
        same("its name has an end", Check.words(x, 22, 2), "");
    }

    @Says(promise = 11, value = "`by`: the other node; NONE for none")
    static void labelledByNone() {
        SpokenTree x = tree(0, FIELD, 0, TEXT);
        same("none before", x.setLabelledBy(1, NONE), NONE);
        same("then one", x.setLabelledBy(1, 2), NONE);
        same("none again", x.setLabelledBy(1, NONE), 2);
        same("info", x.info(1, 6), NONE);
        same("node 0 is one", x.setLabelledBy(1, 0), NONE);
        same("info", x.info(1, 6), 0);
    }

    @Says(promise = 11, value = "Returns the previous one; NONE if there was none.")
    static void setLabelledByReturnsThePrevious() {
        SpokenTree x = full(TEXT);
        same("none", x.setLabelledBy(23, 1), NONE);
        same("node 1", x.setLabelledBy(23, 1), 1);
        same("node 1 again", x.setLabelledBy(23, 0), 1);
        same("the root", x.setLabelledBy(23, 22), 0);
        same("node 22", x.setLabelledBy(23, NONE), 22);
        same("none again", x.setLabelledBy(23, NONE), NONE);
        x.setLabelledBy(23, 22);
        x.remove(22);
        same("one that was removed", x.setLabelledBy(23, 1), NONE);
    }

    @Says(promise = 11, value = "Throws `IndexOutOfBoundsException` if there is no such node, or by is neither NONE nor a node")
    static void noNodeToLabel() {
        noSuchNode((x, node) -> x.setLabelledBy(node, NONE));
        noSuchNode((x, node) -> x.setLabelledBy(node, 0));
    }

    @Says(promise = 11, value = "or by is neither NONE nor a node")
    static void noNodeToBeLabelledBy() {
        refused(OUTSIDE, Boundaries::busy, (x, n) -> x.setLabelledBy(1, n), -2, 11, 23, 24, 25, LOWEST, HIGHEST);
        same("NONE", told(busy(), x -> x.setLabelledBy(1, -1)), "nothing");
        same("node 10", told(busy(), x -> x.setLabelledBy(1, 10)), "nothing");
        same("node 23", told(full(TEXT), x -> x.setLabelledBy(1, 23)), "nothing");
    }

    @Says(promise = 11, value = "Throws `IllegalArgumentException` if both are the same")
    static void notByItself() {
        refused(ARGUMENT, Boundaries::busy, (x, n) -> x.setLabelledBy(n, n), 0, 1, 10);
        refused(ARGUMENT, () -> full(TEXT), x -> x.setLabelledBy(23, 23));
    }

    @Says(promise = 11, value = "If several exceptions of a method apply, the one that is listed first is thrown.")
    static void setLabelledByThrowsInOrder() {
        refused(OUTSIDE, Boundaries::busy, (x, n) -> x.setLabelledBy(n, n), -1, -2, 11, 24);
    }

    @Says(promise = 11, value = "Lets a node be labelled by another one.")
    static void onlyThatNodeIsLabelled() {
        SpokenTree x = tree(0, LINK, 0, TEXT, 0, LINK);
        Check.text(x, 2, "two");
        x.setLabelledBy(1, 2);
        same("its name", Check.words(x, 1, 2), "two");
        same("that of another", Check.words(x, 3, 2), "");
        same("nothing is announced", x.pending(), 0);
    }

    @Says(promise = 11, value = "Undoable.")
    static void setLabelledByIsUndoable() {
        undoable(Boundaries::busy, x -> x.setLabelledBy(1, NONE));
        undoable(Boundaries::busy, x -> x.setLabelledBy(1, 4));
        undoable(Boundaries::busy, x -> x.setLabelledBy(3, 0));
    }

    // ---- 12, character

    @Says(promise = 12, value = "Words are joined with one space between any two of them; empty ones are left out.")
    static void spacesOnlyBetweenWords() {
        for (int empty = 0; empty < 8; empty++) {
            SpokenTree x = tree(0, TEXT, 0, TEXT, 0, TEXT);
            StringBuilder due = new StringBuilder();
            for (int n = 0; n < 3; n++) {
                if ((empty >> n & 1) == 0) {
                    Check.text(x, n + 1, "w" + n);
                    due.append(due.length() == 0 ? "" : " ").append("w").append(n);
                }
            }
            same("with the empty ones of " + empty, Check.words(x, 0, 4), due.toString());
        }
        SpokenTree x = tree(0, GROUP, 0, TEXT, 0, GROUP, 3, GROUP, 3, TEXT, 0, IMAGE);
        same("all empty", Check.words(x, 0, 4), "");
        Check.text(x, 5, "a");
        same("one", Check.words(x, 0, 4), "a");
        Check.text(x, 2, "b");
        same("two, nested", Check.words(x, 0, 4), "b a");
    }

    @Says(promise = 12, value = "The content of a text or a field is its text; that of an image is empty")
    static void contentOfTextFieldAndImage() {
        for (int role : new int[] {TEXT, FIELD, IMAGE}) {
            SpokenTree x = tree(0, role, 1, TEXT);
            Check.text(x, 2, "kid");
            Check.label(x, 1, "label");
            same("without a text, role " + role, Check.words(x, 1, 4), "");
            if (role != IMAGE) {
                Check.text(x, 1, "12345678");
                same("with one, role " + role, Check.words(x, 1, 4), "12345678");
            }
        }
    }

    @Says(promise = 12, value = "that of another node consists of the parts of its children that are not out, in their order, joined.")
    static void contentOfOthers() {
        for (int role = GROUP; role <= HEADER; role++) {
            if (role == TEXT || role == FIELD || role == IMAGE) {
                continue;
            }
            SpokenTree x = tree(0, role, 1, TEXT, 1, DIALOG, 3, TEXT, 1, GROUP, 5, TEXT);
            same("no words, role " + role, Check.words(x, 1, 4), "");
            Check.text(x, 2, "a");
            Check.text(x, 4, "b");
            Check.text(x, 6, "c");
            same("a closed dialog is left out", Check.words(x, 1, 4), "a c");
            x.open(3);
            same("an open one is not", Check.words(x, 1, 4), "a b c");
            Check.label(x, 5, "label");
            same("a label for content", Check.words(x, 1, 4), "a b label");
            x.move(5, 1, 0);
            same("in their order", Check.words(x, 1, 4), "label a b");
            x.set(2, HIDDEN, 1);
            same("a hidden one is left out", Check.words(x, 1, 4), "label b");
            x.set(4, HIDDEN, 1);
            same("also one below", Check.words(x, 1, 4), "label");
            x.set(5, HIDDEN, 1);
            same("all are out", Check.words(x, 1, 4), "");
            x.set(1, HIDDEN, 1);
            x.set(2, HIDDEN, 0);
            same("being out itself makes no odds", Check.words(x, 1, 4), "a");
        }
        same("without children", Check.words(tree(0, BUTTON), 1, 4), "");
    }

    @Says(promise = 12, value = "that of another node consists of the parts of its children that are not out, in their order, joined.")
    static void contentThroughAllLevels() {
        SpokenTree x = chain(TEXT);
        Check.text(x, 23, "12345678");
        for (int node = 0; node < 24; node++) {
            same("content of " + node, Check.words(x, node, 4), "12345678");
        }
        x.set(12, HIDDEN, 1);
        same("above one that is out", Check.words(x, 11, 4), "");
        same("of that one", Check.words(x, 12, 4), "12345678");
        x.set(12, HIDDEN, 0);
        Check.label(x, 12, "L");
        same("above one with a label", Check.words(x, 0, 4), "L");
    }

    @Says(promise = 12, value = "The part of a node is its label, if that is not empty, otherwise its content.")
    static void partIsLabelOrContent() {
        SpokenTree x = tree(0, TEXT, 0, GROUP, 2, TEXT, 0, IMAGE);
        same("neither", Check.words(x, 1, 5), "");
        Check.text(x, 1, "text");
        Check.text(x, 3, "kid");
        same("a text's content", Check.words(x, 1, 5), "text");
        same("a group's content", Check.words(x, 2, 5), "kid");
        same("an image without label", Check.words(x, 4, 5), "");
        for (int node = 1; node <= 4; node++) {
            Check.label(x, node, "L");
            same("a label of one character", Check.words(x, node, 5), "L");
            Check.label(x, node, "");
            same("empty again", Check.words(x, node, 5), new String[] {"", "text", "kid", "kid", ""}[node]);
        }
        x.setLabelledBy(1, 3);
        same("being labelled makes no odds", Check.words(x, 1, 5), "text");
    }

    @Says(promise = 12, value = "if it is labelled by a node, the content of this (also if that is empty, or the node is out)")
    static void nameByAnotherNode() {
        SpokenTree x = tree(0, BUTTON, 1, TEXT, 0, GROUP, 3, TEXT, 0, DIALOG, 5, TEXT);
        Check.text(x, 2, "own");
        Check.label(x, 1, "label");
        x.setLabelledBy(1, 3);
        same("an empty content", Check.words(x, 1, 2), "");
        Check.label(x, 3, "other");
        same("still empty: a label is not content", Check.words(x, 1, 2), "");
        Check.text(x, 4, "four");
        same("then its content", Check.words(x, 1, 2), "four");
        x.set(3, HIDDEN, 1);
        same("that is out", Check.words(x, 1, 2), "four");
        x.set(4, HIDDEN, 1);
        same("what is out below it is left out", Check.words(x, 1, 2), "");
        Check.text(x, 6, "six");
        x.setLabelledBy(1, 5);
        same("a closed dialog", Check.words(x, 1, 2), "six");
        x.setLabelledBy(1, 2);
        same("its own child", Check.words(x, 1, 2), "own");
        x.setLabelledBy(1, 0);
        same("the root", Check.words(x, 1, 2), "label");
        x.setLabelledBy(1, NONE);
        same("none", Check.words(x, 1, 2), "label");
        Check.label(x, 1, "");
        same("neither", Check.words(x, 1, 2), "own");
    }

    @Says(promise = 12, value = "its label, if that is not empty; if its role is text, button, link, cell or header, its content; otherwise it is empty.")
    static void nameByLabelOrContent() {
        for (int role = GROUP; role <= HEADER; role++) {
            SpokenTree x = tree(0, role, 1, TEXT);
            Check.text(x, 2, "in");
            if (role == TEXT || role == FIELD) {
                Check.text(x, 1, "in");
            }
            boolean byContent = role == TEXT || role == BUTTON || role == LINK || role == CELL || role == HEADER;
            same("by content, role " + role, Check.words(x, 1, 2), byContent ? "in" : "");
            Check.label(x, 1, "!");
            same("by label, role " + role, Check.words(x, 1, 2), "!");
            Check.label(x, 1, "");
            same("emptied, role " + role, Check.words(x, 1, 2), byContent ? "in" : "");
        }
        same("the root's", Check.words(new SpokenTree(), 0, 2), "");
    }

    @Says(promise = 12, value = "The phrase of a node consists, joined, of: its name; the word for its role")
    static void phraseOfEachRole() {
        for (int role = GROUP; role <= HEADER; role++) {
            SpokenTree x = tree(0, role);
            same("role " + role, Check.words(x, 1, 3), ROLE_WORDS[role]);
            Check.label(x, 1, "!");
            same("with a name", Check.words(x, 1, 3), ("! " + ROLE_WORDS[role]).trim());
            x.set(1, DISABLED, 1);
            same("and disabled", Check.words(x, 1, 3), (("! " + ROLE_WORDS[role]).trim() + " disabled"));
            Check.label(x, 1, "");
            same("disabled alone", Check.words(x, 1, 3), (ROLE_WORDS[role] + " disabled").trim());
            x.set(1, DISABLED, 0);
            same("no more", Check.words(x, 1, 3), ROLE_WORDS[role]);
        }
    }

    @Says(promise = 12, value = "for a field its text; \"disabled\" if that setting is 1.")
    static void phraseOfAField() {
        for (int parts = 0; parts < 8; parts++) {
            SpokenTree x = tree(0, FIELD);
            Check.label(x, 1, (parts & 1) == 1 ? "name" : "");
            Check.text(x, 1, (parts & 2) == 2 ? "12345678" : "");
            x.set(1, DISABLED, parts >> 2);
            same("with the parts of " + parts, Check.words(x, 1, 3), ((parts & 1) == 1 ? "name " : "") + "edit"
                    + ((parts & 2) == 2 ? " 12345678" : "") + (parts >= 4 ? " disabled" : ""));
        }
        SpokenTree x = tree(0, TEXT);
        Check.text(x, 1, "once");
        same("a text's only once", Check.words(x, 1, 3), "once");
        Check.label(x, 1, "label");
        same("and not behind its label", Check.words(x, 1, 3), "label");
    }

    @Says(promise = 12, value = "The phrase of a node consists, joined, of: its name; the word for its role")
    static void theLongestWords() {
        SpokenTree x = full(FIELD);
        StringBuilder all = new StringBuilder();
        for (int node = 1; node < 24; node++) {
            Check.text(x, node, "12345678");
            all.append(node == 1 ? "" : " ").append("12345678");
        }
        x.setLabelledBy(23, 0);
        x.set(23, DISABLED, 1);
        String due = all + " edit 12345678 disabled";
        same("length", x.length(23, 3), due.length());
        same("words", Check.words(x, 23, 3), due);
        same("the last character", x.character(23, 3, due.length() - 1), 'd');
        same("behind it", x.character(23, 3, due.length()), NONE);
    }

    @Says(promise = 12, value = "`what`: 0 its text, 1 its label, 2 its name, 3 its phrase, 4 its content, 5 its part")
    static void whatFromZeroToFive() {
        SpokenTree x = tree(0, FIELD, 0, TEXT);
        Check.text(x, 1, "text");
        Check.label(x, 1, "label");
        Check.text(x, 2, "name");
        x.setLabelledBy(1, 2);
        String[] due = {"text", "label", "name", "name edit text", "text", "label"};
        for (int what = 0; what <= 5; what++) {
            same("words " + what, Check.words(x, 1, what), due[what]);
        }
        Check.label(x, 1, "");
        same("part", Check.words(x, 1, 5), "text");
        same("label", Check.words(x, 1, 1), "");
    }

    @Says(promise = 12, value = "Returns its code; NONE if there is no such character.")
    static void noSuchCharacter() {
        SpokenTree x = tree(0, FIELD);
        String[] due = {"", "", "", "edit", "", ""};
        for (int what = 0; what <= 5; what++) {
            same("of empty words " + what, x.character(1, what, 0), due[what].isEmpty() ? NONE : 'e');
            same("of the root", x.character(0, what, 0), NONE);
        }
        Check.text(x, 1, "!2345~78");
        Check.label(x, 1, "~");
        int[] length = {8, 1, 1, 15, 8, 1};
        int[] first = {'!', '~', '~', '~', '!', '~'};
        int[] last = {'8', '~', '~', '8', '8', '~'};
        for (int what = 0; what <= 5; what++) {
            same("the first, " + what, x.character(1, what, 0), first[what]);
            same("the last, " + what, x.character(1, what, length[what] - 1), last[what]);
            same("behind it, " + what, x.character(1, what, length[what]), NONE);
            same("far behind, " + what, x.character(1, what, 999), NONE);
            same("at the end of int, " + what, x.character(1, what, HIGHEST), NONE);
        }
        same("a space", x.character(1, 3, 1), ' ');
    }

    @Says(promise = 12, value = "Positions, places and indices may be negative where NONE is returned")
    static void negativeIndex() {
        SpokenTree x = tree(0, FIELD);
        Check.text(x, 1, "abc");
        for (int what = 0; what <= 5; what++) {
            for (int index : new int[] {-1, -2, LOWEST}) {
                same("words " + what, x.character(1, what, index), NONE);
            }
        }
    }

    @Says(promise = 12, value = "`index`: the index of the character")
    static void indicesFromZero() {
        SpokenTree x = tree(0, TEXT);
        Check.text(x, 1, "abcdefgh");
        for (int index = 0; index < 8; index++) {
            same("index " + index, x.character(1, 0, index), 'a' + index);
        }
    }

    @Says(promise = 12, value = "Throws `IllegalArgumentException` if what is not 0 to 5")
    static void charactersBeyond() {
        refused(ARGUMENT, Boundaries::busy, (x, n) -> x.character(4, n, 0), -1, 6, 7, LOWEST, HIGHEST);
        same("what 0", told(busy(), x -> x.character(4, 0, 0)), "nothing");
        same("what 5", told(busy(), x -> x.character(4, 5, 0)), "nothing");
    }

    @Says(promise = 12, value = "Throws `IndexOutOfBoundsException` if there is no such node")
    static void noNodeForCharacter() {
        noSuchNode((x, node) -> x.character(node, 0, 0));
        noSuchNode((x, node) -> x.character(node, 5, 0));
    }

    @Says(promise = 12, value = "NONE is returned only if no exception applies.")
    static void noCharacterOfNothing() {
        refused(OUTSIDE, Boundaries::busy, x -> x.character(24, 0, -1));
        refused(ARGUMENT, Boundaries::busy, x -> x.character(4, 6, -1));
        refused(ARGUMENT, Boundaries::busy, x -> x.character(4, -1, 999));
    }

    @Says(promise = 12, value = "If several exceptions of a method apply, the one that is listed first is thrown.")
    static void characterThrowsInOrder() {
        refused(OUTSIDE, Boundaries::busy, x -> x.character(24, 6, 0));
        refused(OUTSIDE, Boundaries::busy, x -> x.character(-1, -1, -1));
    }

    @Says(promise = 12, value = "Returns a character of the words of a node.")
    static void characterChangesNothing() {
        same("all the same", Story.of(() -> {
            SpokenTree x = busy();
            for (int what = 0; what <= 5; what++) {
                x.character(4, what, 0);
                x.length(3, what);
            }
            return x;
        }), Story.of(Boundaries::busy));
    }

    // ---- 13, length

    @Says(promise = 13, value = "Returns the number of characters.")
    static void lengthsFromNone() {
        SpokenTree x = full(TEXT);
        for (int what = 0; what <= 5; what++) {
            same("empty words " + what, x.length(0, what), 0);
        }
        for (int node = 1; node < 24; node++) {
            Check.text(x, node, "12345678");
            same("with " + node, x.length(0, 4), 9 * node - 1);
        }
        same("part", x.length(0, 5), 206);
        same("name of a group", x.length(0, 2), 0);
        x.setLabelledBy(0, 1);
        same("labelled", x.length(0, 2), 8);
    }

    @Says(promise = 13, value = "`what`: as for character()")
    static void lengthOfEachWords() {
        SpokenTree x = tree(0, FIELD, 0, TEXT);
        Check.text(x, 1, "1");
        Check.label(x, 1, "22");
        Check.text(x, 2, "333");
        x.setLabelledBy(1, 2);
        int[] due = {1, 2, 3, 10, 1, 2};
        for (int what = 0; what <= 5; what++) {
            same("length " + what, x.length(1, what), due[what]);
        }
    }

    @Says(promise = 13, value = "Throws `IllegalArgumentException` if what is not 0 to 5")
    static void lengthsBeyond() {
        refused(ARGUMENT, Boundaries::busy, (x, n) -> x.length(4, n), -1, 6, 7, LOWEST, HIGHEST);
        same("what 0", told(busy(), x -> x.length(4, 0)), "nothing");
        same("what 5", told(busy(), x -> x.length(4, 5)), "nothing");
    }

    @Says(promise = 13, value = "Throws `IndexOutOfBoundsException` if there is no such node")
    static void noNodeForLength() {
        noSuchNode((x, node) -> x.length(node, 0));
        noSuchNode((x, node) -> x.length(node, 5));
    }

    @Says(promise = 13, value = "If several exceptions of a method apply, the one that is listed first is thrown.")
    static void lengthThrowsInOrder() {
        refused(OUTSIDE, Boundaries::busy, x -> x.length(24, 6));
        refused(OUTSIDE, Boundaries::busy, x -> x.length(-1, -1));
    }

    @Says(promise = 13, value = "Returns the length of the words of a node.")
    static void lengthAgreesWithCharacter() {
        SpokenTree x = busy();
        for (int node = 0; node <= 10; node++) {
            for (int what = 0; what <= 5; what++) {
                int length = x.length(node, what);
                if (length > 0) {
                    yes("the last character", x.character(node, what, length - 1) != NONE);
                }
                same("behind it", x.character(node, what, length), NONE);
            }
        }
    }
}
