/** Boundary cases of promises 15 to 22: who can have the focus, its order, and dialogs. */
final class FocusBoundaries extends Boundaries {
    /** A button 1, a dialog 2 with the button 3, a dialog 4 with the button 5. */
    private static SpokenTree twoDialogs() {
        return tree(0, BUTTON, 0, DIALOG, 2, BUTTON, 0, DIALOG, 4, BUTTON);
    }

    // ---- 15, canFocus

    @Says(promise = 15, value = "A node can have the focus if it is a button, a link or a field")
    static void onlyThreeRoles() {
        for (int role = GROUP; role <= HEADER; role++) {
            same("role " + role, tree(0, role).canFocus(1) ? 1 : 0,
                    role == BUTTON || role == LINK || role == FIELD ? 1 : 0);
        }
        no("the root", new SpokenTree().canFocus(0));
    }

    @Says(promise = 15, value = "is shown, is not disabled, its tab number is not -1")
    static void shownEnabledAndWithNumber() {
        for (int role : new int[] {BUTTON, LINK, FIELD}) {
            SpokenTree x = tree(0, GROUP, 1, role);
            x.set(2, HIDDEN, 1);
            no("hidden", x.canFocus(2));
            x.set(2, HIDDEN, 0);
            x.set(1, HIDDEN, 1);
            no("in a hidden one", x.canFocus(2));
            x.set(1, HIDDEN, 0);
            yes("shown", x.canFocus(2));
            x.set(2, DISABLED, 1);
            no("disabled", x.canFocus(2));
            x.set(2, DISABLED, 0);
            x.set(1, DISABLED, 1);
            yes("in a disabled one", x.canFocus(2));
            for (int number = -1; number <= 9; number++) {
                x.set(2, TAB_NUMBER, number);
                same("tab number " + number, x.canFocus(2) ? 1 : 0, number == -1 ? 0 : 1);
            }
            x.set(1, TAB_NUMBER, -1);
            yes("in one with tab number -1", x.canFocus(2));
        }
    }

    @Says(promise = 15, value = "and it lies below the trap, if there is one.")
    static void belowTheTrap() {
        SpokenTree x = tree(0, BUTTON, 1, DIALOG, 2, BUTTON, 3, GROUP, 4, LINK, 0, FIELD);
        yes("without a trap", x.canFocus(1));
        no("in a closed dialog", x.canFocus(3));
        x.open(2);
        no("above the trap", x.canFocus(1));
        no("the trap", x.canFocus(2));
        yes("its child", x.canFocus(3));
        yes("deep below it", x.canFocus(5));
        no("beside it", x.canFocus(6));
        x.move(6, 5, 0);
        yes("moved into it", x.canFocus(6));
        x.move(3, 0, 0);
        no("moved out of it", x.canFocus(5));
        x.set(2, HIDDEN, 1);
        yes("the trap hidden", x.canFocus(1));
    }

    @Says(promise = 15, value = "Tells whether a node can have the focus.")
    static void belowTheTrapThroughAllLevels() {
        SpokenTree x = new SpokenTree();
        x.create(0, 0, DIALOG);
        for (int node = 1; node < 23; node++) {
            x.create(node, 0, node == 22 ? BUTTON : GROUP);
        }
        no("closed", x.canFocus(23));
        x.open(1);
        yes("22 levels below", x.canFocus(23));
        x.move(23, 0, 0);
        no("at its side", x.canFocus(23));
    }

    @Says(promise = 15, value = "Returns whether it can.")
    static void asFocusOnDoes() {
        for (SpokenTree x : new SpokenTree[] {busy(), twoDialogs(), full(LINK)}) {
            for (int node = 0; node < 24; node++) {
                if (Story.has(x, node)) {
                    int asked = node;
                    same("node " + node, x.canFocus(node) ? "nothing" : "IllegalStateException",
                            told(x, y -> y.focusOn(asked)));
                }
            }
        }
    }

    @Says(promise = 15, value = "Throws `IndexOutOfBoundsException` if there is no such node")
    static void noNodeForCanFocus() {
        noSuchNode((x, node) -> x.canFocus(node) ? 1 : 0);
    }

    // ---- 16, focusOrder

    @Says(promise = 16, value = "first those with a tab number above 0, in ascending order of these numbers (for equal ones in document order), then those with 0, in document order.")
    static void byTabNumber() {
        SpokenTree x = new SpokenTree();
        for (int number = -1; number <= 9; number++) {
            x.create(0, 0, BUTTON);
            x.set(number + 2, TAB_NUMBER, number);
        }
        same("1 to 9, then 0, and not -1", Check.focusOrder(x), "3 4 5 6 7 8 9 10 11 2");
        for (int node = 12; node < 24; node++) {
            x.create(0, 0, LINK);
            x.set(node, TAB_NUMBER, node < 16 ? 1 : node < 20 ? 0 : 9);
        }
        same("equal ones in document order", Check.focusOrder(x),
                "15 14 13 12 3 4 5 6 7 8 9 10 23 22 21 20 11 19 18 17 16 2");
    }

    @Says(promise = 16, value = "The order of focus has all nodes that can have the focus")
    static void fromNoneToTwentyThree() {
        same("none", new SpokenTree().focusOrder(0), NONE);
        same("no button", full(TEXT).focusOrder(0), NONE);
        same("one", Check.focusOrder(tree(0, BUTTON)), "1");
        SpokenTree x = full(FIELD);
        for (int place = 0; place < 23; place++) {
            same("place " + place, x.focusOrder(place), place + 1);
        }
        same("no more", x.focusOrder(23), NONE);
        for (int node = 1; node < 24; node++) {
            x.set(node, DISABLED, 1);
            same("the first then", x.focusOrder(0), node == 23 ? NONE : node + 1);
        }
    }

    @Says(promise = 16, value = "Returns the node; NONE if there is no such place.")
    static void noPlaceOfFocus() {
        SpokenTree x = tree(0, BUTTON, 0, TEXT, 0, LINK);
        same("the first", x.focusOrder(0), 1);
        same("the last", x.focusOrder(1), 3);
        same("behind it", x.focusOrder(2), NONE);
        same("place 23", x.focusOrder(23), NONE);
        same("place 24", x.focusOrder(24), NONE);
        same("at the end of int", x.focusOrder(HIGHEST), NONE);
        SpokenTree y = full(LINK);
        same("the 23rd", y.focusOrder(22), 23);
        same("the 24th", y.focusOrder(23), NONE);
        same("the 25th", y.focusOrder(24), NONE);
        y.remove(23);
        same("one less", y.focusOrder(22), NONE);
    }

    @Says(promise = 16, value = "Positions, places and indices may be negative where NONE is returned")
    static void negativePlaceOfFocus() {
        for (int place : new int[] {-1, -2, LOWEST}) {
            same("of 23", full(LINK).focusOrder(place), NONE);
            same("of none", new SpokenTree().focusOrder(place), NONE);
        }
    }

    @Says(promise = 16, value = "`place`: its place, from 0")
    static void placesOfFocusFromZero() {
        SpokenTree x = tree(0, BUTTON, 0, LINK, 0, FIELD);
        same("first", x.focusOrder(0), 1);
        same("second", x.focusOrder(1), 2);
        same("third", x.focusOrder(2), 3);
    }

    @Says(promise = 16, value = "Returns a node of the order of focus.")
    static void onlyWhatIsBelowTheTrap() {
        SpokenTree x = tree(0, BUTTON, 0, DIALOG, 2, BUTTON, 2, LINK, 0, FIELD);
        same("closed", Check.focusOrder(x), "1 5");
        x.open(2);
        same("open", Check.focusOrder(x), "3 4");
        x.set(4, TAB_NUMBER, 1);
        same("by number", Check.focusOrder(x), "4 3");
        x.remove(3);
        x.remove(4);
        same("an empty trap", Check.focusOrder(x), "");
    }

    // ---- 17, focus

    @Says(promise = 17, value = "One node, or none (as at first), is remembered as the focus.")
    static void noFocusAtFirst() {
        same("a new object", new SpokenTree().focus(), NONE);
        SpokenTree x = full(BUTTON);
        same("with 23 buttons", x.focus(), NONE);
        x.focusOn(1);
        x.focusOn(23);
        same("only one is remembered", x.focus(), 23);
        x.set(23, DISABLED, 1);
        same("not the one before", x.focus(), NONE);
    }

    @Says(promise = 17, value = "The focus is this node if it can have the focus, otherwise none.")
    static void onlyWhileItCan() {
        SpokenTree x = tree(0, GROUP, 1, BUTTON, 0, DIALOG);
        x.focusOn(2);
        int[][] rows = {{2, HIDDEN, 1, 0}, {1, HIDDEN, 1, 0}, {2, DISABLED, 1, 0}, {2, TAB_NUMBER, -1, 0}};
        for (int[] row : rows) {
            x.set(row[0], row[1], row[2]);
            same("it cannot", x.focus(), NONE);
            x.set(row[0], row[1], row[3]);
            same("it can again", x.focus(), 2);
        }
        x.move(2, 3, 0);
        same("in a closed dialog", x.focus(), NONE);
        x.move(2, 0, 0);
        same("out of it", x.focus(), 2);
    }

    @Says(promise = 17, value = "Returns the node; NONE if there is none.")
    static void focusOrNone() {
        SpokenTree x = full(LINK);
        x.focusOn(1);
        same("the lowest", x.focus(), 1);
        x.focusOn(23);
        same("the highest", x.focus(), 23);
        x.remove(23);
        same("removed", x.focus(), NONE);
    }

    @Says(promise = 17, value = "Returns the focus.")
    static void askingForTheFocus() {
        SpokenTree x = tree(0, BUTTON, 0, BUTTON);
        x.step(false);
        same("by a step", x.focus(), 1);
        same("asked twice", x.focus(), 1);
        x.step(false);
        same("by the next", x.focus(), 2);
        same("all the same", Story.of(() -> {
            SpokenTree y = busy();
            y.focus();
            return y;
        }), Story.of(Boundaries::busy));
    }

    // ---- 18, focusOn

    @Says(promise = 18, value = "To focus a node means: it is remembered, and its phrase is announced with rank 0 (see below), with the node as its target.")
    static void focusIsAnnounced() {
        SpokenTree x = tree(0, FIELD, 0, BUTTON);
        Check.text(x, 1, "12345678");
        x.focusOn(1);
        same("rank", x.announcement(0, 0), 0);
        same("target", x.announcement(0, 1), 1);
        same("region", x.announcement(0, 2), NONE);
        same("words", Check.announced(x, 0), "edit 12345678");
        same("one", x.pending(), 1);
        same("remembered", x.focus(), 1);
        x.speak();
        x.focusOn(1);
        same("the same again", Check.queue(x), "0 1 -1 edit 12345678");
    }

    @Says(promise = 18, value = "An announcement with rank 0 first removes all others with rank 0; if its words are empty, it is not appended.")
    static void onlyOneOfRankZero() {
        SpokenTree x = tree(0, TEXT, 0, BUTTON, 0, LINK, 0, TEXT);
        x.set(0, LIVE, 3);
        x.focusOn(2);
        Check.text(x, 1, "a");
        Check.text(x, 4, "b");
        same("the focus first", Check.queue(x), "0 2 -1 button|1 1 0 a|1 4 0 b");
        x.focusOn(3);
        same("appended behind", Check.queue(x), "1 1 0 a|1 4 0 b|0 3 -1 link");
        x.focusOn(3);
        same("once more", Check.queue(x), "1 1 0 a|1 4 0 b|0 3 -1 link");
        for (int role : new int[] {BUTTON, LINK, FIELD}) {
            SpokenTree y = tree(0, role);
            y.focusOn(1);
            same("what can have the focus has words", y.pending(), 1);
        }
    }

    @Says(promise = 18, value = "Returns the focus before; NONE if there was none.")
    static void theFocusBefore() {
        SpokenTree x = full(BUTTON);
        same("none", x.focusOn(1), NONE);
        same("the lowest", x.focusOn(23), 1);
        same("the highest", x.focusOn(23), 23);
        same("still", x.focusOn(2), 23);
        x.set(2, TAB_NUMBER, -1);
        same("one that cannot any more", x.focusOn(3), NONE);
        x.remove(3);
        same("one that was removed", x.focusOn(4), NONE);
    }

    @Says(promise = 18, value = "Throws `IllegalStateException` if it cannot have the focus")
    static void whoCannotIsRefused() {
        for (int n = GROUP; n <= HEADER; n++) {
            int role = n;
            if (role != BUTTON && role != LINK && role != FIELD) {
                refused(STATE, () -> tree(0, role, 0, BUTTON), x -> x.focusOn(1));
            }
        }
        refused(STATE, Boundaries::busy, (x, n) -> x.focusOn(n), 0, 1, 2, 10);
        int[][] rows = {{HIDDEN, 1}, {DISABLED, 1}, {TAB_NUMBER, -1}};
        for (int[] row : rows) {
            refused(STATE, () -> {
                SpokenTree x = tree(0, BUTTON, 0, BUTTON);
                x.focusOn(1);
                x.set(1, row[0], row[1]);
                return x;
            }, x -> x.focusOn(1));
        }
        same("one that can", told(busy(), x -> x.focusOn(3)), "nothing");
    }

    @Says(promise = 18, value = "Throws `IndexOutOfBoundsException` if there is no such node")
    static void noNodeToFocus() {
        noSuchNode(SpokenTree::focusOn);
    }

    @Says(promise = 18, value = "Focuses a node.")
    static void allCanBeFocused() {
        SpokenTree x = full(LINK);
        for (int node = 1; node < 24; node++) {
            x.focusOn(node);
            same("focus", x.focus(), node);
            same("queue", Check.queue(x), "0 " + node + " -1 link");
        }
    }

    @Says(promise = 18, value = "Undoable.")
    static void focusOnIsUndoable() {
        undoable(Boundaries::busy, x -> x.focusOn(3));
        undoable(() -> full(BUTTON), x -> x.focusOn(23));
    }

    // ---- 19, step

    @Says(promise = 19, value = "behind the last one the first one (if there is no focus: the first one)")
    static void forwardsAround() {
        SpokenTree x = full(BUTTON);
        same("no focus", x.step(false), 1);
        for (int node = 2; node <= 23; node++) {
            same("next", x.step(false), node);
        }
        same("behind the last", x.step(false), 1);
        x.set(1, DISABLED, 1);
        same("no focus any more", x.step(false), 2);
        SpokenTree y = tree(0, BUTTON);
        same("alone", y.step(false), 1);
        same("alone, around", y.step(false), 1);
        SpokenTree z = tree(0, BUTTON, 0, BUTTON);
        z.focusOn(2);
        same("the last of two", z.step(false), 1);
        same("the first of two", z.step(false), 2);
    }

    @Says(promise = 19, value = "backwards, the one before, ahead of the first one the last one (if there is no focus: the last one).")
    static void backwardsAround() {
        SpokenTree x = full(BUTTON);
        same("no focus", x.step(true), 23);
        for (int node = 22; node >= 1; node--) {
            same("the one before", x.step(true), node);
        }
        same("ahead of the first", x.step(true), 23);
        x.set(23, DISABLED, 1);
        same("no focus any more", x.step(true), 22);
        SpokenTree y = tree(0, BUTTON);
        same("alone", y.step(true), 1);
        same("alone, around", y.step(true), 1);
        SpokenTree z = tree(0, BUTTON, 0, BUTTON);
        z.focusOn(1);
        same("the first of two", z.step(true), 2);
        same("the last of two", z.step(true), 1);
    }

    @Says(promise = 19, value = "Focuses the next node in the order of focus")
    static void stepsByTabNumber() {
        SpokenTree x = tree(0, BUTTON, 0, BUTTON, 0, BUTTON);
        x.set(1, TAB_NUMBER, 9);
        x.set(3, TAB_NUMBER, 1);
        same("first", x.step(false), 3);
        same("second", x.step(false), 1);
        same("third", x.step(false), 2);
        same("around", x.step(false), 3);
        same("and back", x.step(true), 2);
        same("announced", Check.queue(x), "0 2 -1 button");
        x.set(1, TAB_NUMBER, -1);
        same("left out", x.step(true), 3);
    }

    @Says(promise = 19, value = "`backwards`: whether to go backwards")
    static void bothWays() {
        SpokenTree x = tree(0, BUTTON, 0, LINK, 0, FIELD);
        x.focusOn(2);
        same("forwards", x.step(false), 3);
        same("backwards", x.step(true), 2);
        same("backwards again", x.step(true), 1);
    }

    @Says(promise = 19, value = "NONE if no node can have the focus (then nothing is focused, and what is remembered stays).")
    static void nobodyCanHaveTheFocus() {
        for (int n = 0; n < 2; n++) {
            boolean backwards = n == 1;
            same("the root alone", new SpokenTree().step(backwards), NONE);
            same("no button", full(TEXT).step(backwards), NONE);
            SpokenTree x = tree(0, BUTTON, 0, BUTTON);
            x.focusOn(1);
            x.speak();
            x.set(1, DISABLED, 1);
            x.set(2, DISABLED, 1);
            same("disabled", x.step(backwards), NONE);
            same("nothing is announced", x.pending(), 0);
            same("no focus", x.focus(), NONE);
            x.set(1, DISABLED, 0);
            same("remembered still", x.focus(), 1);
            x.focusOn(1);
            x.set(1, DISABLED, 1);
            same("disabled", x.step(backwards), NONE);
            same("the queue stays", Check.queue(x), "0 1 -1 button");
        }
    }

    @Says(promise = 19, value = "Undoable.")
    static void stepIsUndoable() {
        undoable(() -> full(BUTTON), x -> x.step(false));
        undoable(() -> full(BUTTON), x -> x.step(true));
        undoable(Boundaries::busy, x -> x.step(true));
        undoable(SpokenTree::new, x -> x.step(false));
        undoable(() -> full(TEXT), x -> x.step(true));
    }

    // ---- 20, open

    @Says(promise = 20, value = "Opens a dialog: it is the one that was opened last then")
    static void openedLast() {
        SpokenTree x = full(DIALOG);
        for (int node = 23; node >= 1; node--) {
            x.open(node);
            same("trap", x.trap(), node);
        }
        x.close(23);
        x.open(23);
        same("opened again", x.trap(), 23);
    }

    @Says(promise = 20, value = "and remembers the focus that there was before, or none, in place of what it remembered")
    static void theDialogRemembers() {
        SpokenTree x = twoDialogs();
        x.open(2);
        same("none was remembered", x.close(2), NONE);
        x.focusOn(1);
        x.open(2);
        same("then node 1", x.close(2), 1);
        x.set(1, DISABLED, 1);
        x.open(2);
        x.set(1, DISABLED, 0);
        same("none again: it could not have the focus", x.close(2), NONE);
        x.focusOn(1);
        x.open(2);
        x.open(4);
        same("the focus in the first", x.close(4), 3);
        same("and that before it", x.close(2), 1);
    }

    @Says(promise = 20, value = "then the first node in the order of focus is focused, if it lies below the dialog")
    static void theFirstOfTheDialog() {
        SpokenTree x = tree(0, BUTTON, 0, DIALOG, 2, GROUP, 3, BUTTON, 2, LINK);
        x.set(1, TAB_NUMBER, 1);
        same("deep below", x.open(2), 4);
        same("announced", Check.queue(x), "0 4 -1 button");
        x.close(2);
        x.set(5, TAB_NUMBER, 9);
        same("by tab number", x.open(2), 5);
        x.close(2);
        x.set(5, TAB_NUMBER, -1);
        x.set(3, HIDDEN, 1);
        same("nobody below", x.open(2), NONE);
    }

    @Says(promise = 20, value = "otherwise none is remembered as the focus.")
    static void noneIsRememberedThen() {
        SpokenTree x = tree(0, BUTTON, 0, DIALOG);
        x.focusOn(1);
        same("an empty dialog", x.open(2), NONE);
        same("what was announced stays", Check.queue(x), "0 1 -1 button");
        x.remove(2);
        same("none is remembered", x.focus(), NONE);
        SpokenTree y = twoDialogs();
        y.focusOn(1);
        y.set(2, HIDDEN, 1);
        same("a hidden dialog", y.open(2), NONE);
        same("though another can", y.focusOrder(0), 1);
        same("none is remembered", y.focus(), NONE);
        y.focusOn(1);
        same("in a closed one", y.move(2, 4, 0), 0);
        y.close(2);
        y.set(2, HIDDEN, 0);
        y.focusOn(1);
        same("not shown", y.open(2), NONE);
        same("no trap", y.trap(), NONE);
        same("it remembers all the same", y.close(2), 1);
    }

    @Says(promise = 20, value = "Returns the focus then; NONE if there is none.")
    static void openReturnsTheFocus() {
        SpokenTree x = full(BUTTON);
        x.remove(1);
        x.create(0, 0, DIALOG);
        same("an empty one", x.open(1), NONE);
        x.close(1);
        x.move(23, 1, 0);
        same("with node 23", x.open(1), 23);
        same("the focus", x.focus(), 23);
    }

    @Says(promise = 20, value = "Throws `IllegalStateException` if it is open")
    static void openTwice() {
        refused(STATE, Boundaries::busy, (x, n) -> x.open(n), 2, 9);
        refused(STATE, () -> {
            SpokenTree x = twoDialogs();
            x.open(2);
            x.set(2, HIDDEN, 1);
            return x;
        }, x -> x.open(2));
        same("a closed one", told(twoDialogs(), x -> x.open(2)), "nothing");
    }

    @Says(promise = 20, value = "Throws `IllegalArgumentException` if it is no dialog")
    static void openNoDialog() {
        for (int n = GROUP; n <= HEADER; n++) {
            int role = n;
            if (role != DIALOG) {
                refused(ARGUMENT, () -> tree(0, role), x -> x.open(1));
            }
        }
        refused(ARGUMENT, Boundaries::busy, x -> x.open(0));
    }

    @Says(promise = 20, value = "Throws `IndexOutOfBoundsException` if there is no such node")
    static void noNodeToOpen() {
        noSuchNode(SpokenTree::open);
        same("a removed dialog", told(twoDialogs(), x -> x.remove(2) + x.open(2)), "IndexOutOfBoundsException");
    }

    @Says(promise = 20, value = "Undoable.")
    static void openIsUndoable() {
        undoable(FocusBoundaries::twoDialogs, x -> x.open(4));
        undoable(() -> {
            SpokenTree x = twoDialogs();
            x.focusOn(1);
            x.open(2);
            x.close(2);
            x.open(4);
            return x;
        }, x -> x.open(2));
        undoable(() -> tree(0, DIALOG), x -> x.open(1));
    }

    // ---- 21, close

    @Says(promise = 21, value = "the node that it remembers, if it still exists and can have the focus then, is focused (otherwise what is remembered as the focus stays).")
    static void backToTheNode() {
        SpokenTree x = twoDialogs();
        x.focusOn(1);
        x.open(2);
        same("back", x.close(2), 1);
        same("announced", Check.queue(x), "0 1 -1 button");
        int[][] rows = {{HIDDEN, 1}, {DISABLED, 1}, {TAB_NUMBER, -1}};
        for (int[] row : rows) {
            SpokenTree y = twoDialogs();
            y.focusOn(1);
            y.open(2);
            y.set(1, row[0], row[1]);
            same("it cannot", y.close(2), NONE);
            same("nothing is announced", Check.queue(y), "0 3 -1 button");
            y.move(3, 0, 0);
            same("what is remembered stays", y.focus(), 3);
        }
        SpokenTree z = twoDialogs();
        z.focusOn(1);
        z.open(2);
        z.remove(1);
        z.move(3, 0, 0);
        same("it does not exist: what is remembered stays", z.close(2), 3);
        same("nothing is announced", Check.queue(z), "0 3 -1 button");
    }

    @Says(promise = 21, value = "Closes a dialog")
    static void closingInAnyOrder() {
        SpokenTree x = twoDialogs();
        x.focusOn(1);
        x.open(2);
        x.open(4);
        same("the lower first: node 1 is not in the trap", x.close(2), 5);
        same("closed", x.info(2, 12), 0);
        same("trap", x.trap(), 4);
        same("then the upper: its node is not shown", x.close(4), NONE);
        same("no trap", x.trap(), NONE);
    }

    @Says(promise = 21, value = "Returns the focus then; NONE if there is none.")
    static void closeReturnsTheFocus() {
        SpokenTree x = full(BUTTON);
        x.remove(1);
        x.create(0, 0, DIALOG);
        x.open(1);
        same("none was remembered", x.close(1), NONE);
        x.focusOn(23);
        x.open(1);
        same("the highest", x.close(1), 23);
        same("the focus", x.focus(), 23);
    }

    @Says(promise = 21, value = "Throws `IllegalStateException` if it is closed")
    static void closeTwice() {
        refused(STATE, FocusBoundaries::twoDialogs, (x, n) -> x.close(n), 2, 4);
        refused(STATE, () -> {
            SpokenTree x = twoDialogs();
            x.open(2);
            x.open(4);
            x.close(2);
            return x;
        }, x -> x.close(2));
        same("an open one", told(busy(), x -> x.close(9)), "nothing");
    }

    @Says(promise = 21, value = "Throws `IllegalArgumentException` if it is no dialog")
    static void closeNoDialog() {
        for (int n = GROUP; n <= HEADER; n++) {
            int role = n;
            if (role != DIALOG) {
                refused(ARGUMENT, () -> tree(0, role), x -> x.close(1));
            }
        }
        refused(ARGUMENT, Boundaries::busy, x -> x.close(0));
    }

    @Says(promise = 21, value = "Throws `IndexOutOfBoundsException` if there is no such node")
    static void noNodeToClose() {
        noSuchNode(SpokenTree::close);
        same("a removed dialog", told(busy(), x -> x.remove(2) + x.close(2)), "IndexOutOfBoundsException");
    }

    @Says(promise = 21, value = "Undoable.")
    static void closeIsUndoable() {
        undoable(Boundaries::busy, x -> x.close(2));
        undoable(Boundaries::busy, x -> x.close(9));
    }

    // ---- 22, trap

    @Says(promise = 22, value = "The trap is the dialog that was opened last among those that are shown; if no dialog is shown, there is none.")
    static void openedLastAmongTheShown() {
        SpokenTree x = tree(0, DIALOG, 0, GROUP, 2, DIALOG, 1, DIALOG);
        same("none at first", x.trap(), NONE);
        x.open(4);
        same("open, but not shown", x.trap(), NONE);
        x.open(1);
        same("the last", x.trap(), 1);
        x.open(3);
        same("the next", x.trap(), 3);
        x.set(2, HIDDEN, 1);
        same("hidden with its group", x.trap(), 1);
        x.close(1);
        same("all are closed or not shown", x.trap(), NONE);
        x.set(2, HIDDEN, 0);
        same("shown again", x.trap(), 3);
        x.open(1);
        same("opened again", x.trap(), 1);
        x.close(4);
        x.open(4);
        same("the one in it, opened again", x.trap(), 4);
        x.set(4, HIDDEN, 1);
        same("hidden", x.trap(), 1);
        x.remove(1);
        same("removed", x.trap(), 3);
        x.remove(3);
        same("all removed", x.trap(), NONE);
    }

    @Says(promise = 22, value = "Returns the dialog; NONE if there is none.")
    static void trapOrNone() {
        same("a new object", new SpokenTree().trap(), NONE);
        SpokenTree x = full(DIALOG);
        same("23 closed ones", x.trap(), NONE);
        x.open(23);
        same("the highest", x.trap(), 23);
        x.open(1);
        same("the lowest", x.trap(), 1);
        x.close(1);
        same("the one before", x.trap(), 23);
        x.close(23);
        same("none", x.trap(), NONE);
    }

    @Says(promise = 22, value = "Returns the trap.")
    static void trapWithoutButtons() {
        SpokenTree x = tree(0, BUTTON, 0, DIALOG);
        x.open(2);
        same("an empty dialog is one", x.trap(), 2);
        same("and holds the focus", x.focusOrder(0), NONE);
        x.undo();
        same("undone", x.trap(), NONE);
    }
}
