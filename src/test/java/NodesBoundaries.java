/** Boundary cases of promises 1 to 7 and 14: the tree. */
final class NodesBoundaries extends Boundaries {
    // ---- 1, a new object

    @Says(promise = 1, value = "Creates a tree with the root alone")
    static void theRootIsAlone() {
        SpokenTree x = new SpokenTree();
        same("nodes()", x.nodes(), 1);
        same("first place", x.inOrder(0), 0);
        same("second place", x.inOrder(1), NONE);
        same("children", x.info(0, 3), 0);
        same("first child", x.child(0, 0), NONE);
    }

    @Says(promise = 1, value = "an empty queue and an empty buffer; nothing was spoken.")
    static void nothingWaits() {
        SpokenTree x = new SpokenTree();
        same("pending()", x.pending(), 0);
        same("announcement(0, 0)", x.announcement(0, 0), NONE);
        same("announced(0, 0)", x.announced(0, 0), NONE);
        same("spoken(0)", x.spoken(0), NONE);
        same("clearText()", x.clearText(), 0);
        same("records", records(x), 0);
    }

    @Says(promise = 1, value = "`NONE = -1`: Returned where there is no such thing.")
    static void noneIsMinusOne() {
        same("NONE", SpokenTree.NONE, -1);
        same("child(0, 0)", new SpokenTree().child(0, 0), SpokenTree.NONE);
    }

    @Says(promise = 1, value = "0 group (the root has it)")
    static void theRootIsAGroup() {
        SpokenTree x = new SpokenTree();
        int[] due = {GROUP, NONE, 0, 0, 0, 0, NONE, 0, 0, 0, 0, 0, 0, 0, 1};
        for (int what = 0; what < due.length; what++) {
            same("info(0, " + what + ")", x.info(0, what), due[what]);
        }
    }

    // ---- 2, create

    @Says(promise = 2, value = "There are at most 24 nodes, numbered from 0 to 23")
    static void numbersGoTo23() {
        SpokenTree x = new SpokenTree();
        for (int n = 1; n <= 23; n++) {
            same("number", x.create(0, 0, GROUP), n);
            same("how many", Integer.bitCount(x.nodes()), n + 1);
        }
        same("nodes()", x.nodes(), 0xFFFFFF);
        same("parent of the last", x.info(23, 1), 0);
    }

    @Says(promise = 2, value = "a new node gets the lowest number that is free.")
    static void theLowestFreeNumber() {
        SpokenTree x = full(GROUP);
        for (int number : new int[] {1, 2, 12, 22, 23}) {
            x.remove(number);
            same("the only one free", x.create(0, 0, TEXT), number);
        }
        x.remove(23);
        x.remove(1);
        x.remove(9);
        same("the lowest of three", x.create(0, 0, TEXT), 1);
        same("the lowest of two", x.create(0, 0, TEXT), 9);
        same("the last", x.create(0, 0, TEXT), 23);
        SpokenTree y = tree(0, GROUP, 1, GROUP, 0, GROUP);
        y.remove(1);
        same("of one removed", y.create(3, 0, GROUP), 1);
        same("of one below it", y.create(3, 0, GROUP), 2);
        same("behind all", y.create(3, 0, GROUP), 4);
    }

    @Says(promise = 2, value = "`position`: its position, 0 to the number of children of the parent")
    static void positionWithoutChildren() {
        SpokenTree x = tree(0, GROUP);
        same("position 0", x.create(1, 0, TEXT), 2);
        same("child", x.child(1, 0), 2);
        refused(OUTSIDE, () -> tree(0, GROUP), (y, n) -> y.create(1, n, TEXT), -1, 1, 2, LOWEST, HIGHEST);
    }

    @Says(promise = 2, value = "`position`: its position, 0 to the number of children of the parent")
    static void positionAmongThree() {
        String[] due = {"0 4 1 2 3", "0 1 4 2 3", "0 1 2 4 3", "0 1 2 3 4"};
        for (int position = 0; position <= 3; position++) {
            SpokenTree x = tree(0, TEXT, 0, TEXT, 0, TEXT);
            same("number", x.create(0, position, TEXT), 4);
            same("its position", x.info(4, 2), position);
            same("order", Check.documentOrder(x), due[position]);
        }
        refused(OUTSIDE, () -> tree(0, TEXT, 0, TEXT, 0, TEXT), (x, n) -> x.create(0, n, TEXT), -1, 4, 5, LOWEST,
                HIGHEST);
    }

    @Says(promise = 2, value = "`position`: its position, 0 to the number of children of the parent")
    static void positionAmongTwentyTwo() {
        for (int position : new int[] {0, 21, 22}) {
            SpokenTree x = full(TEXT);
            x.remove(23);
            same("number", x.create(0, position, TEXT), 23);
            same("its position", x.info(23, 2), position);
        }
        SpokenTree x = full(TEXT);
        x.remove(23);
        same("position 23 throws", told(x, y -> y.create(0, 23, TEXT)), "IndexOutOfBoundsException");
    }

    @Says(promise = 2, value = "`parent`: its parent")
    static void anyNodeIsAParent() {
        for (int role = GROUP; role <= HEADER; role++) {
            SpokenTree x = tree(0, role);
            same("number", x.create(1, 0, GROUP), 2);
            same("below role " + role, x.info(2, 1), 1);
            same("children", x.info(1, 3), 1);
        }
        SpokenTree deep = chain(GROUP);
        deep.remove(1);
        for (int n = 0; n < 23; n++) {
            same("number", deep.create(n, 0, GROUP), n + 1);
            same("below the one before", deep.info(n + 1, 1), n);
        }
    }

    @Says(promise = 2, value = "`role`: its role")
    static void rolesFromGroupToHeader() {
        for (int role = GROUP; role <= HEADER; role++) {
            same("role", tree(0, role).info(1, 0), role);
        }
    }

    @Says(promise = 2, value = "8 row, 9 cell, 10 header.")
    static void theHighestRoles() {
        SpokenTree x = tree(0, TABLE, 1, ROW, 2, CELL, 2, HEADER);
        same("the header is a header", x.header(4, true), NONE);
        same("and a cell", x.cellPlace(4, true), 1);
    }

    @Says(promise = 2, value = "Throws `IllegalArgumentException` if role is not 0 to 10")
    static void rolesBeyond() {
        refused(ARGUMENT, Boundaries::busy, (x, n) -> x.create(0, 0, n), -1, 11, 12, LOWEST, HIGHEST);
    }

    @Says(promise = 2, value = "Throws `IndexOutOfBoundsException` if there is no such parent")
    static void noSuchParent() {
        noSuchNode((x, node) -> x.create(node, 0, GROUP));
    }

    @Says(promise = 2, value = "or position is out of range")
    static void positionOutOfRange() {
        refused(OUTSIDE, Boundaries::busy, (x, n) -> x.create(6, n, GROUP), -1, 3, LOWEST, HIGHEST);
        same("position 2", told(busy(), x -> x.create(6, 2, GROUP)), "nothing");
    }

    @Says(promise = 2, value = "Throws `IllegalStateException` if there are 24 nodes")
    static void twentyFourAreAll() {
        refused(STATE, () -> full(TEXT), x -> x.create(0, 0, GROUP));
        refused(STATE, () -> full(TEXT), x -> x.create(0, 23, GROUP));
        refused(STATE, () -> full(TEXT), x -> x.create(23, 0, GROUP));
        SpokenTree x = full(TEXT);
        x.remove(7);
        same("with 23 nodes", told(x, y -> y.create(0, 0, GROUP)), "nothing");
        same("with 24 again", told(x, y -> y.create(0, 0, GROUP)), "IllegalStateException");
    }

    @Says(promise = 2, value = "If several exceptions of a method apply, the one that is listed first is thrown.")
    static void createThrowsInOrder() {
        refused(OUTSIDE, Boundaries::busy, x -> x.create(24, 0, 11));
        refused(OUTSIDE, Boundaries::busy, x -> x.create(0, -1, -1));
        refused(OUTSIDE, () -> full(TEXT), x -> x.create(24, 0, GROUP));
        refused(OUTSIDE, () -> full(TEXT), x -> x.create(0, 24, GROUP));
        refused(OUTSIDE, () -> full(TEXT), x -> x.create(0, -1, 11));
        refused(ARGUMENT, () -> full(TEXT), x -> x.create(0, 0, 11));
        refused(ARGUMENT, () -> full(TEXT), x -> x.create(0, 0, -1));
    }

    @Says(promise = 2, value = "Creates a node.")
    static void allIsNewInAUsedNumber() {
        SpokenTree x = tree(0, DIALOG, 1, FIELD, 0, BUTTON);
        x.setLabelledBy(1, 3);
        for (int what = 0; what < 5; what++) {
            x.set(1, what, 1);
        }
        Check.label(x, 1, "abc");
        x.open(1);
        x.remove(1);
        same("number", x.create(0, 1, DIALOG), 1);
        int[] due = {DIALOG, 0, 1, 0, 0, 0, NONE, 0, 0, 0, 0, 0, 0, 1, 0};
        for (int what = 0; what < due.length; what++) {
            same("info(1, " + what + ")", x.info(1, what), due[what]);
        }
    }

    @Says(promise = 2, value = "both empty at first.")
    static void noTextInAUsedNumber() {
        SpokenTree x = tree(0, FIELD);
        Check.text(x, 1, "12345678");
        Check.label(x, 1, "12345678");
        x.remove(1);
        x.create(0, 0, FIELD);
        same("text", x.length(1, 0), 0);
        same("label", x.length(1, 1), 0);
        same("phrase", Check.words(x, 1, 3), "edit");
    }

    @Says(promise = 2, value = "Returns its number.")
    static void createReturnsTheNumber() {
        SpokenTree x = new SpokenTree();
        same("first", x.create(0, 0, LINK), 1);
        same("role of that number", x.info(1, 0), LINK);
        same("second", x.create(0, 0, IMAGE), 2);
        same("role of that number", x.info(2, 0), IMAGE);
    }

    @Says(promise = 2, value = "Undoable.")
    static void createIsUndoable() {
        undoable(Boundaries::busy, x -> x.create(0, 1, DIALOG));
        undoable(() -> {
            SpokenTree x = full(GROUP);
            x.remove(23);
            return x;
        }, x -> x.create(22, 0, FIELD));
    }

    // ---- 3, remove

    @Says(promise = 3, value = "Node 0 is the root; it always exists.")
    static void theRootStays() {
        SpokenTree x = full(GROUP);
        for (int node = 23; node >= 1; node--) {
            same("removed", x.remove(node), 1);
        }
        same("nodes()", x.nodes(), 1);
        same("children", x.info(0, 3), 0);
        same("first number", x.create(0, 0, TEXT), 1);
    }

    @Says(promise = 3, value = "Throws `IllegalStateException` if it is the root")
    static void theRootIsNotRemoved() {
        refused(STATE, SpokenTree::new, x -> x.remove(0));
        refused(STATE, Boundaries::busy, x -> x.remove(0));
        refused(STATE, () -> full(BUTTON), x -> x.remove(0));
        same("node 1", told(full(BUTTON), x -> x.remove(1)), "nothing");
    }

    @Says(promise = 3, value = "Throws `IndexOutOfBoundsException` if there is no such node")
    static void noNodeToRemove() {
        noSuchNode(SpokenTree::remove);
        SpokenTree x = tree(0, GROUP, 1, TEXT);
        x.remove(1);
        same("twice", told(x, y -> y.remove(1)), "IndexOutOfBoundsException");
        same("one below it", told(x, y -> y.remove(2)), "IndexOutOfBoundsException");
    }

    @Says(promise = 3, value = "Removes a node.")
    static void placesCloseUp() {
        String[] due = {"", "0 2 3", "0 1 3", "0 1 2"};
        for (int node = 1; node <= 3; node++) {
            SpokenTree x = tree(0, TEXT, 0, TEXT, 0, TEXT);
            same("removed", x.remove(node), 1);
            same("order", Check.documentOrder(x), due[node]);
            same("position of the last", x.info(node == 3 ? 2 : 3, 2), 1);
            same("no third child", x.child(0, 2), NONE);
        }
    }

    @Says(promise = 3, value = "When a node is removed, so are all nodes below it")
    static void allBelowGoToo() {
        SpokenTree x = chain(TEXT);
        same("the deepest alone", x.remove(23), 1);
        same("the two deepest", x.remove(21), 2);
        same("all but the root", x.remove(1), 20);
        same("nodes()", x.nodes(), 1);
        SpokenTree y = tree(0, GROUP, 1, GROUP, 2, TEXT, 2, TEXT, 1, TEXT, 0, TEXT);
        same("a branch", y.remove(2), 3);
        same("what is beside it stays", Check.documentOrder(y), "0 1 5 6");
    }

    @Says(promise = 3, value = "Returns how many nodes were removed.")
    static void howManyWereRemoved() {
        same("a leaf", tree(0, GROUP, 0, GROUP, 2, TEXT).remove(1), 1);
        same("with its child", tree(0, GROUP, 0, GROUP, 2, TEXT).remove(2), 2);
        same("23", chain(TEXT).remove(1), 23);
        same("22", chain(TEXT).remove(2), 22);
    }

    @Says(promise = 3, value = "nodes that are labelled by one of them are not labelled any more")
    static void labelledNoMore() {
        SpokenTree x = tree(0, GROUP, 1, TEXT, 0, FIELD, 0, FIELD, 0, FIELD, 0, TEXT);
        x.setLabelledBy(0, 2);
        x.setLabelledBy(3, 1);
        x.setLabelledBy(4, 2);
        x.setLabelledBy(5, 6);
        x.remove(1);
        same("the root, by one below it", x.info(0, 6), NONE);
        same("by the node itself", x.info(3, 6), NONE);
        same("by one below it", x.info(4, 6), NONE);
        same("by another", x.info(5, 6), 6);
        same("number used again", x.create(0, 0, TEXT), 1);
        same("not labelled by the new one", x.info(3, 6), NONE);
        x.setLabelledBy(3, 6);
        x.remove(6);
        same("by the last", x.info(3, 6), NONE);
        SpokenTree y = full(TEXT);
        y.setLabelledBy(1, 23);
        y.setLabelledBy(22, 23);
        y.remove(23);
        same("by node 23", y.info(1, 6), NONE);
        same("also of node 22", y.info(22, 6), NONE);
    }

    @Says(promise = 3, value = "announcements with one of them as target or region are removed")
    static void announcementsGo() {
        SpokenTree x = tree(0, GROUP, 1, TEXT, 1, TEXT, 0, TEXT, 1, GROUP, 5, BUTTON);
        x.set(0, LIVE, 2);
        x.set(1, LIVE, 3);
        Check.text(x, 2, "a");
        Check.text(x, 3, "b");
        Check.text(x, 4, "c");
        x.focusOn(6);
        same("before", Check.queue(x), "1 2 1 a|1 3 1 b|2 4 0 c|0 6 -1 button");
        x.move(3, 0, 0);
        x.remove(2);
        same("one target", Check.queue(x), "1 3 1 b|2 4 0 c|0 6 -1 button");
        x.remove(1);
        same("region and a target below it", Check.queue(x), "2 4 0 c");
        x.remove(3);
        same("another node", Check.queue(x), "2 4 0 c");
        x.remove(4);
        same("the last", x.pending(), 0);
    }

    @Says(promise = 3, value = "if one of them is remembered as the focus")
    static void theFocusIsForgotten() {
        SpokenTree x = tree(0, GROUP, 1, BUTTON, 0, BUTTON);
        x.focusOn(2);
        x.remove(3);
        same("another was removed", x.focus(), 2);
        x.remove(1);
        same("none", x.focus(), NONE);
        x.create(0, 0, BUTTON);
        x.create(0, 0, BUTTON);
        same("its number used again", x.focus(), NONE);
        same("next is the first", x.step(false), x.focusOrder(0));
    }

    @Says(promise = 3, value = "as read last, or by a dialog, none is remembered there.")
    static void theCellReadLastIsForgotten() {
        for (int node : new int[] {1, 2, 3}) {
            refused(STATE, () -> tableWithout(node), x -> x.readBeside(1));
            SpokenTree x = tableWithout(node);
            for (int number = 1; number <= 4; number++) {
                if (!Story.has(x, number)) {
                    x.create(number == 1 ? 0 : number == 2 ? 1 : 2, 0, number == 1 ? TABLE : number == 2 ? ROW : CELL);
                }
            }
            same("its number is a cell again", x.cellPlace(3, false), 0);
            for (int direction = 0; direction <= 3; direction++) {
                int beside = direction;
                same("but not the one read last", told(x, y -> y.readBeside(beside)), "IllegalStateException");
            }
        }
        SpokenTree x = tree(0, TABLE, 1, ROW, 2, CELL, 2, CELL, 2, CELL);
        x.read(3);
        x.remove(5);
        same("another was removed", x.readBeside(1), 4);
    }

    private static SpokenTree tableWithout(int node) {
        SpokenTree x = tree(0, TABLE, 1, ROW, 2, CELL, 2, CELL);
        x.read(3);
        x.remove(node);
        return x;
    }

    @Says(promise = 3, value = "or by a dialog, none is remembered there.")
    static void theDialogForgets() {
        SpokenTree x = tree(0, GROUP, 1, BUTTON, 0, DIALOG, 3, LINK, 0, FIELD);
        x.focusOn(2);
        x.open(3);
        x.remove(5);
        same("another was removed", x.close(3), 2);
        x.open(3);
        x.remove(1);
        x.create(0, 0, BUTTON);
        x.create(0, 0, BUTTON);
        same("both numbers used again", x.nodes(), 0b11111);
        same("none to go back to", x.close(3), NONE);
    }

    @Says(promise = 3, value = "Undoable.")
    static void removeIsUndoable() {
        for (int node : new int[] {1, 2, 3, 4, 5, 6, 8, 9, 10}) {
            undoable(Boundaries::busy, x -> x.remove(node));
        }
        undoable(() -> chain(FIELD), x -> x.remove(1));
    }

    // ---- 4, move

    @Says(promise = 4, value = "0 to the number of children of the parent without the node")
    static void positionAmongSiblings() {
        String[] due = {"0 2 1 3", "0 1 2 3", "0 1 3 2"};
        for (int position = 0; position <= 2; position++) {
            SpokenTree x = tree(0, TEXT, 0, TEXT, 0, TEXT);
            same("previous parent", x.move(2, 0, position), 0);
            same("its position", x.info(2, 2), position);
            same("order", Check.documentOrder(x), due[position]);
        }
        refused(ARGUMENT, () -> tree(0, TEXT, 0, TEXT, 0, TEXT), (x, n) -> x.move(2, 0, n), -1, 3, 4, LOWEST, HIGHEST);
    }

    @Says(promise = 4, value = "0 to the number of children of the parent without the node")
    static void positionAmongOthers() {
        String[] due = {"0 2 1 3 4", "0 2 3 1 4", "0 2 3 4 1"};
        for (int position = 0; position <= 2; position++) {
            SpokenTree x = tree(0, TEXT, 0, GROUP, 2, TEXT, 2, TEXT);
            same("previous parent", x.move(1, 2, position), 0);
            same("its position", x.info(1, 2), position);
            same("order", Check.documentOrder(x), due[position]);
        }
        refused(ARGUMENT, () -> tree(0, TEXT, 0, GROUP, 2, TEXT, 2, TEXT), (x, n) -> x.move(1, 2, n), -1, 3, LOWEST,
                HIGHEST);
    }

    @Says(promise = 4, value = "0 to the number of children of the parent without the node")
    static void positionWithoutOthers() {
        same("the only child", tree(0, GROUP).move(1, 0, 0), 0);
        refused(ARGUMENT, () -> tree(0, GROUP), (x, n) -> x.move(1, 0, n), -1, 1);
        SpokenTree x = tree(0, GROUP, 0, TEXT);
        same("to a parent without children", x.move(2, 1, 0), 0);
        same("order", Check.documentOrder(x), "0 1 2");
        refused(ARGUMENT, () -> tree(0, GROUP, 0, TEXT), (y, n) -> y.move(2, 1, n), -1, 1);
    }

    @Says(promise = 4, value = "0 to the number of children of the parent without the node")
    static void positionAmongTwentyTwoOthers() {
        SpokenTree x = full(GROUP);
        same("to the end", x.move(1, 0, 22), 0);
        same("the last child", x.child(0, 22), 1);
        same("back to the front", x.move(1, 0, 0), 0);
        same("the last child", x.child(0, 22), 23);
        refused(ARGUMENT, () -> full(GROUP), (y, n) -> y.move(1, 0, n), 23, 24);
    }

    @Says(promise = 4, value = "Returns its previous parent.")
    static void movesReturnTheParent() {
        SpokenTree x = tree(0, GROUP, 0, GROUP, 0, TEXT);
        same("from the root", x.move(3, 1, 0), 0);
        same("from node 1", x.move(3, 2, 0), 1);
        same("from node 2 to node 2", x.move(3, 2, 0), 2);
        same("from node 2", x.move(3, 0, 0), 2);
        same("from the root again", x.move(3, 0, 1), 0);
        SpokenTree deep = chain(TEXT);
        same("from node 22", deep.move(23, 0, 0), 22);
        same("to node 22", deep.move(23, 22, 0), 0);
        same("from node 22 again", deep.move(23, 21, 1), 22);
    }

    @Says(promise = 4, value = "`parent`: its new parent")
    static void theNewParent() {
        SpokenTree x = tree(0, GROUP, 0, GROUP, 0, TEXT);
        x.move(3, 1, 0);
        same("parent", x.info(3, 1), 1);
        same("children of the root", x.info(0, 3), 2);
        same("children of node 1", x.info(1, 3), 1);
        x.move(3, 2, 0);
        same("none is left", x.info(1, 3), 0);
    }

    @Says(promise = 4, value = "Throws `IllegalStateException` if node is the root, or parent is the node or lies below it")
    static void theRootIsNotMoved() {
        refused(STATE, Boundaries::busy, (x, n) -> x.move(0, n, 0), 0, 1, 3, 10);
        refused(STATE, SpokenTree::new, x -> x.move(0, 0, 0));
    }

    @Says(promise = 4, value = "or parent is the node or lies below it")
    static void notBelowItself() {
        refused(STATE, Boundaries::busy, (x, n) -> x.move(5, n, 0), 5, 6, 7, 8);
        refused(STATE, () -> chain(GROUP), (x, n) -> x.move(1, n, 0), 1, 2, 23);
        SpokenTree x = chain(GROUP);
        same("its own parent", told(x, y -> y.move(23, 22, 0)), "nothing");
        same("the parent's parent", told(x, y -> y.move(23, 21, 0)), "nothing");
        same("a sibling", told(x, y -> y.move(23, 22, 0)), "nothing");
        SpokenTree y = tree(0, GROUP, 1, GROUP, 0, GROUP, 3, GROUP);
        same("below a sibling", y.move(1, 4, 0), 0);
        same("order", Check.documentOrder(y), "0 3 4 1 2");
        same("now that is below", told(y, z -> z.move(3, 2, 0)), "IllegalStateException");
        same("and up again", y.move(2, 0, 0), 1);
        same("now it is not", told(y, z -> z.move(3, 2, 0)), "nothing");
    }

    @Says(promise = 4, value = "Throws `IndexOutOfBoundsException` if there is no such node or parent")
    static void noSuchNodeOrParent() {
        noSuchNode((x, node) -> x.move(node, 0, 0));
        noSuchNode((x, node) -> x.move(1, node, 0));
    }

    @Says(promise = 4, value = "Throws `IllegalArgumentException` if position is out of range")
    static void moveOutOfRange() {
        refused(ARGUMENT, Boundaries::busy, (x, n) -> x.move(4, 6, n), -1, 3, LOWEST, HIGHEST);
        refused(ARGUMENT, Boundaries::busy, (x, n) -> x.move(7, 6, n), -1, 2);
        same("position 2 of 2 others", told(busy(), x -> x.move(4, 6, 2)), "nothing");
        same("position 1 of 1 other", told(busy(), x -> x.move(7, 6, 1)), "nothing");
    }

    @Says(promise = 4, value = "If several exceptions of a method apply, the one that is listed first is thrown.")
    static void moveThrowsInOrder() {
        refused(OUTSIDE, Boundaries::busy, x -> x.move(0, 24, 0));
        refused(OUTSIDE, Boundaries::busy, x -> x.move(0, -1, -1));
        refused(OUTSIDE, Boundaries::busy, x -> x.move(24, 24, 0));
        refused(OUTSIDE, Boundaries::busy, x -> x.move(24, 0, -1));
        refused(OUTSIDE, Boundaries::busy, x -> x.move(1, 24, 99));
        refused(STATE, Boundaries::busy, x -> x.move(0, 1, -1));
        refused(STATE, Boundaries::busy, x -> x.move(5, 5, 99));
        refused(STATE, Boundaries::busy, x -> x.move(5, 8, -1));
    }

    @Says(promise = 4, value = "Moves a node to another place.")
    static void allBelowMovesToo() {
        SpokenTree x = tree(0, GROUP, 1, TEXT, 1, TEXT, 0, GROUP, 4, TEXT);
        Check.label(x, 1, "abc");
        x.set(1, TAB_NUMBER, 9);
        x.move(1, 4, 1);
        same("order", Check.documentOrder(x), "0 4 5 1 2 3");
        same("children", x.info(1, 3), 2);
        same("label", Check.words(x, 1, 1), "abc");
        same("tab number", x.info(1, 9), 9);
        x.move(1, 4, 1);
        same("to where it is", Check.documentOrder(x), "0 4 5 1 2 3");
    }

    @Says(promise = 4, value = "Undoable.")
    static void moveIsUndoable() {
        undoable(Boundaries::busy, x -> x.move(3, 9, 1));
        undoable(Boundaries::busy, x -> x.move(2, 10, 0));
        undoable(Boundaries::busy, x -> x.move(1, 0, 0));
        undoable(() -> full(GROUP), x -> x.move(23, 0, 0));
    }

    // ---- 5, nodes

    @Says(promise = 5, value = "Returns the set of nodes.")
    static void theSetOfNodes() {
        SpokenTree x = new SpokenTree();
        same("the root alone", x.nodes(), 1);
        x.create(0, 0, GROUP);
        same("two", x.nodes(), 3);
        SpokenTree y = full(GROUP);
        same("all", y.nodes(), 0xFFFFFF);
        y.remove(23);
        same("without the last", y.nodes(), 0x7FFFFF);
        y.remove(1);
        same("without the first", y.nodes(), 0x7FFFFD);
    }

    @Says(promise = 5, value = "Returns a bit mask.")
    static void aBitForEachNode() {
        for (int node = 1; node < 24; node++) {
            SpokenTree x = full(GROUP);
            for (int other = 1; other < 24; other++) {
                if (other != node) {
                    x.remove(other);
                }
            }
            same("the root and node " + node, x.nodes(), 1 | 1 << node);
        }
    }

    // ---- 6, info

    @Says(promise = 6, value = "0 its role, 1 its parent (NONE for the root), 2 its position (0 for the root)")
    static void infoOfTheRoot() {
        SpokenTree x = full(GROUP);
        same("role", x.info(0, 0), GROUP);
        same("parent", x.info(0, 1), NONE);
        same("position", x.info(0, 2), 0);
        same("parent of the first", x.info(1, 1), 0);
        same("position of the first", x.info(1, 2), 0);
        same("position of the second", x.info(2, 2), 1);
        same("position of the last", x.info(23, 2), 22);
        SpokenTree deep = chain(HEADER);
        same("role of the deepest", deep.info(23, 0), HEADER);
        same("parent of the deepest", deep.info(23, 1), 22);
        same("position of the deepest", deep.info(23, 2), 0);
    }

    @Says(promise = 6, value = "3 the number of its children, 4 the length of its text, 5 the length of its label")
    static void infoCounts() {
        same("no children", full(GROUP).info(1, 3), 0);
        same("one child", chain(GROUP).info(22, 3), 1);
        same("23 children", full(GROUP).info(0, 3), 23);
        SpokenTree x = tree(0, FIELD);
        for (String words : new String[] {"", "a", "1234567", "12345678"}) {
            Check.text(x, 1, words);
            Check.label(x, 1, "");
            same("text", x.info(1, 4), words.length());
            same("label", x.info(1, 5), 0);
            Check.label(x, 1, words);
            Check.text(x, 1, "");
            same("text", x.info(1, 4), 0);
            same("label", x.info(1, 5), words.length());
        }
    }

    @Says(promise = 6, value = "6 the node by which it is labelled (NONE if there is none)")
    static void infoOfTheLabel() {
        SpokenTree x = full(GROUP);
        same("none", x.info(1, 6), NONE);
        x.setLabelledBy(1, 0);
        same("the root", x.info(1, 6), 0);
        x.setLabelledBy(1, 23);
        same("the highest", x.info(1, 6), 23);
        same("another", x.info(2, 6), NONE);
    }

    @Says(promise = 6, value = "7 to 11 its settings 0 to 4")
    static void infoOfSettings() {
        int[][] rows = {{1, 0, 0, 0, 0}, {0, 1, 0, 0, 0}, {0, 0, -1, 0, 0}, {0, 0, 9, 0, 0}, {0, 0, 0, 1, 0},
            {0, 0, 0, 3, 0}, {0, 0, 0, 0, 1}, {1, 1, 9, 3, 1}};
        for (int[] row : rows) {
            SpokenTree x = tree(0, GROUP, 0, GROUP, 0, GROUP);
            for (int what = 0; what < 5; what++) {
                x.set(2, what, row[what]);
            }
            for (int what = 0; what < 5; what++) {
                same("setting " + what, x.info(2, 7 + what), row[what]);
                same("of the node before", x.info(1, 7 + what), 0);
                same("of the node behind", x.info(3, 7 + what), 0);
            }
        }
    }

    @Says(promise = 6, value = "12 whether it is an open dialog, 13 whether it is out, 14 whether it is shown (0 or 1 each)")
    static void infoOfDialogs() {
        int[][] rows = {{0, 0, 0, 1, 0}, {0, 1, 1, 0, 1}, {1, 0, 0, 1, 0}, {1, 1, 1, 1, 0}};
        for (int[] row : rows) {
            SpokenTree x = tree(0, DIALOG);
            if (row[1] == 1) {
                x.open(1);
            }
            x.set(1, HIDDEN, row[0]);
            same("open", x.info(1, 12), row[2]);
            same("out", x.info(1, 13), row[3]);
            same("shown", x.info(1, 14), row[4]);
        }
        for (int role = GROUP; role <= HEADER; role++) {
            SpokenTree x = tree(0, role);
            same("open, role " + role, x.info(1, 12), 0);
            same("out, role " + role, x.info(1, 13), role == DIALOG ? 1 : 0);
            same("shown, role " + role, x.info(1, 14), role == DIALOG ? 0 : 1);
        }
    }

    @Says(promise = 6, value = "A dialog is open or closed (closed at first).")
    static void closedAtFirst() {
        SpokenTree x = tree(0, DIALOG, 0, DIALOG);
        same("at first", x.info(1, 12), 0);
        x.open(1);
        same("opened", x.info(1, 12), 1);
        same("the other one", x.info(2, 12), 0);
        x.close(1);
        same("closed", x.info(1, 12), 0);
        x.open(1);
        same("opened again", x.info(1, 12), 1);
    }

    @Says(promise = 6, value = "A node is out if its setting hidden is 1, or if it is a dialog that is closed.")
    static void outByItselfAlone() {
        SpokenTree x = tree(0, GROUP, 1, GROUP, 2, TEXT);
        same("at first", x.info(2, 13), 0);
        x.set(2, HIDDEN, 1);
        same("hidden", x.info(2, 13), 1);
        same("not the node above", x.info(1, 13), 0);
        same("nor the node below", x.info(3, 13), 0);
        x.set(2, HIDDEN, 0);
        same("no more", x.info(2, 13), 0);
        x.set(2, DISABLED, 1);
        same("disabled is not out", x.info(2, 13), 0);
    }

    @Says(promise = 6, value = "A node is shown if neither it nor one of its ancestors is out.")
    static void shownThroughAllLevels() {
        for (int out = 1; out < 24; out++) {
            SpokenTree x = chain(TEXT);
            x.set(out, HIDDEN, 1);
            for (int node = 0; node < 24; node++) {
                same("node " + node + " with " + out + " out", x.info(node, 14), node < out ? 1 : 0);
            }
        }
        SpokenTree x = tree(0, GROUP, 0, GROUP, 1, TEXT);
        x.set(2, HIDDEN, 1);
        same("beside one that is out", x.info(3, 14), 1);
        same("the root", x.info(0, 14), 1);
        SpokenTree y = tree(0, DIALOG, 1, DIALOG, 2, TEXT);
        y.open(2);
        same("in a closed dialog", y.info(3, 14), 0);
        y.open(1);
        same("in open dialogs", y.info(3, 14), 1);
        y.close(2);
        same("in a closed one again", y.info(3, 14), 0);
    }

    @Says(promise = 6, value = "Each other node has a parent.")
    static void eachHasAParent() {
        for (SpokenTree x : new SpokenTree[] {full(GROUP), chain(GROUP), busy()}) {
            for (int node = 1; node < 24; node++) {
                if (Story.has(x, node)) {
                    int parent = x.info(node, 1);
                    yes("parent of " + node, Story.has(x, parent));
                    same("child of it", x.child(parent, x.info(node, 2)), node);
                }
            }
            same("of the root", x.info(0, 1), NONE);
        }
    }

    @Says(promise = 6, value = "Throws `IllegalArgumentException` if what is not 0 to 14")
    static void infoBeyond() {
        refused(ARGUMENT, Boundaries::busy, (x, n) -> x.info(2, n), -1, 15, 16, LOWEST, HIGHEST);
        refused(ARGUMENT, SpokenTree::new, (x, n) -> x.info(0, n), -1, 15);
        same("what 0", told(busy(), x -> x.info(2, 0)), "nothing");
        same("what 14", told(busy(), x -> x.info(2, 14)), "nothing");
    }

    @Says(promise = 6, value = "Throws `IndexOutOfBoundsException` if there is no such node")
    static void noNodeForInfo() {
        noSuchNode((x, node) -> x.info(node, 0));
        noSuchNode((x, node) -> x.info(node, 14));
    }

    @Says(promise = 6, value = "If several exceptions of a method apply, the one that is listed first is thrown.")
    static void infoThrowsInOrder() {
        refused(OUTSIDE, Boundaries::busy, x -> x.info(24, 15));
        refused(OUTSIDE, Boundaries::busy, x -> x.info(-1, -1));
    }

    @Says(promise = 6, value = "Returns something about a node.")
    static void infoChangesNothing() {
        same("all the same", Story.of(() -> {
            SpokenTree x = busy();
            for (int what = 0; what <= 14; what++) {
                x.info(2, what);
            }
            return x;
        }), Story.of(Boundaries::busy));
    }

    @Says(promise = 6, value = "Returns that number.")
    static void infoOfOneNode() {
        SpokenTree x = tree(0, GROUP, 0, FIELD, 2, TEXT);
        Check.text(x, 2, "abcd");
        Check.label(x, 2, "abc");
        x.setLabelledBy(2, 3);
        int[] settings = {0, 1, 8, 2, 1};
        for (int what = 0; what < 5; what++) {
            x.set(2, what, settings[what]);
        }
        int[] due = {FIELD, 0, 1, 1, 4, 3, 3, 0, 1, 8, 2, 1, 0, 0, 1};
        for (int what = 0; what < due.length; what++) {
            same("info(2, " + what + ")", x.info(2, what), due[what]);
        }
    }

    // ---- 7, child

    @Says(promise = 7, value = "The children of a node are in an order; their positions in it are numbered from 0.")
    static void childrenFromZero() {
        SpokenTree x = tree(0, TEXT, 0, TEXT, 0, TEXT);
        x.move(3, 0, 0);
        same("first", x.child(0, 0), 3);
        same("second", x.child(0, 1), 1);
        same("third", x.child(0, 2), 2);
        for (int position = 0; position < 3; position++) {
            same("position", x.info(x.child(0, position), 2), position);
        }
    }

    @Says(promise = 7, value = "Returns the child; NONE if there is no such position.")
    static void noSuchChild() {
        SpokenTree x = tree(0, TEXT, 0, TEXT, 0, TEXT);
        same("the last", x.child(0, 2), 3);
        same("behind it", x.child(0, 3), NONE);
        same("far behind", x.child(0, 24), NONE);
        same("at the end of int", x.child(0, HIGHEST), NONE);
        same("of a leaf", x.child(1, 0), NONE);
        SpokenTree y = full(TEXT);
        same("the 23rd", y.child(0, 22), 23);
        same("the 24th", y.child(0, 23), NONE);
        same("of the last node", y.child(23, 0), NONE);
        y.remove(23);
        same("no more", y.child(0, 22), NONE);
    }

    @Says(promise = 7, value = "`position`: its position")
    static void notTheChildOfAnother() {
        SpokenTree x = tree(0, GROUP, 0, GROUP, 0, GROUP, 1, TEXT, 2, TEXT, 3, TEXT);
        for (int position = -30; position <= 30; position++) {
            same("position " + position, x.child(2, position), position == 0 ? 5 : NONE);
        }
    }

    @Says(promise = 7, value = "Positions, places and indices may be negative where NONE is returned")
    static void negativeChild() {
        for (int position : new int[] {-1, -2, -24, LOWEST}) {
            same("of three", tree(0, TEXT, 0, TEXT, 0, TEXT).child(0, position), NONE);
            same("of node 1", tree(0, TEXT, 0, TEXT, 0, TEXT).child(1, position), NONE);
        }
    }

    @Says(promise = 7, value = "Throws `IndexOutOfBoundsException` if there is no such node")
    static void noNodeForChild() {
        noSuchNode((x, node) -> x.child(node, 0));
    }

    @Says(promise = 7, value = "NONE is returned only if no exception applies.")
    static void noChildOfNoNode() {
        refused(OUTSIDE, Boundaries::busy, x -> x.child(24, -1));
        refused(OUTSIDE, Boundaries::busy, x -> x.child(-1, 99));
        refused(OUTSIDE, SpokenTree::new, x -> x.child(1, 0));
    }

    @Says(promise = 7, value = "Returns a child of a node.")
    static void childrenOfEachNode() {
        SpokenTree x = tree(0, GROUP, 0, GROUP, 1, TEXT, 2, TEXT, 1, TEXT);
        same("of the root", x.child(0, 1), 2);
        same("of node 1", x.child(1, 1), 5);
        same("of node 2", x.child(2, 0), 4);
        SpokenTree deep = chain(TEXT);
        for (int node = 0; node < 23; node++) {
            same("of node " + node, deep.child(node, 0), node + 1);
            same("a second one", deep.child(node, 1), NONE);
        }
    }

    // ---- 14, inOrder

    @Says(promise = 14, value = "a node comes before its children, and a child with all below it before the next child.")
    static void documentOrder() {
        SpokenTree x = tree(0, GROUP, 0, GROUP, 1, GROUP, 2, TEXT, 3, TEXT, 1, TEXT);
        same("in branches", Check.documentOrder(x), "0 1 3 5 6 2 4");
        x.move(2, 0, 0);
        same("after a move", Check.documentOrder(x), "0 2 4 1 3 5 6");
        same("the root alone", Check.documentOrder(new SpokenTree()), "0");
        StringBuilder due = new StringBuilder("0");
        for (int n = 1; n < 24; n++) {
            due.append(' ').append(n);
        }
        same("side by side", Check.documentOrder(full(TEXT)), due.toString());
        same("one below the other", Check.documentOrder(chain(TEXT)), due.toString());
    }

    @Says(promise = 14, value = "Returns the node; NONE if there is no such place.")
    static void noSuchPlace() {
        SpokenTree x = tree(0, TEXT, 0, TEXT);
        same("the first", x.inOrder(0), 0);
        same("the last", x.inOrder(2), 2);
        same("behind it", x.inOrder(3), NONE);
        same("place 23", x.inOrder(23), NONE);
        same("place 24", x.inOrder(24), NONE);
        same("at the end of int", x.inOrder(HIGHEST), NONE);
        SpokenTree y = full(TEXT);
        same("the 24th", y.inOrder(23), 23);
        same("the 25th", y.inOrder(24), NONE);
        y.remove(1);
        same("one less", y.inOrder(23), NONE);
        same("the last then", y.inOrder(22), 23);
    }

    @Says(promise = 14, value = "`place`: its place, from 0")
    static void placesFromZero() {
        for (int place = 0; place < 24; place++) {
            same("place " + place, full(TEXT).inOrder(place), place);
        }
    }

    @Says(promise = 14, value = "Positions, places and indices may be negative where NONE is returned")
    static void negativePlace() {
        for (int place : new int[] {-1, -2, LOWEST}) {
            same("of 24", full(TEXT).inOrder(place), NONE);
            same("of one", new SpokenTree().inOrder(place), NONE);
        }
    }

    @Says(promise = 14, value = "Returns a node by its place in document order.")
    static void alsoWhatIsOut() {
        SpokenTree x = tree(0, DIALOG, 1, TEXT, 0, GROUP, 3, TEXT);
        x.set(3, HIDDEN, 1);
        same("closed and hidden ones", Check.documentOrder(x), "0 1 2 3 4");
    }
}
