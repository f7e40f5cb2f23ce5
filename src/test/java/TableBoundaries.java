/** Boundary cases of promises 30 to 34: tables and reading. */
final class TableBoundaries extends Boundaries {
    /** The table 1 with the rows 2, 6 and 10; the cells of a row have the three numbers behind its own. */
    private static SpokenTree table(int... roles) {
        SpokenTree x = new SpokenTree();
        Check.add(x, 0, TABLE);
        for (int row = 0; row < 3; row++) {
            int number = Check.add(x, 1, ROW);
            for (int column = 0; column < 3; column++) {
                int cell = Check.add(x, number, roles[3 * row + column]);
                Check.label(x, cell, "" + (char) ('A' + 3 * row + column));
            }
        }
        x.clearText();
        return bare(x);
    }

    /** Headers on top and at the left: A B C, D e f, G h i; they are 3 4 5, 7 8 9, 11 12 13. */
    private static SpokenTree usual() {
        return table(HEADER, HEADER, HEADER, HEADER, CELL, CELL, HEADER, CELL, CELL);
    }

    private static SpokenTree after(int cell) {
        SpokenTree x = usual();
        x.read(cell);
        return bare(x);
    }

    private static void says(SpokenTree x, int cell, String due) {
        same("length of " + cell, x.read(cell), due.length());
        same("words of " + cell, Check.spoken(x), due);
    }

    // ---- 30, cellPlace

    @Says(promise = 30, value = "A row of a table is a child of it with the role row, a cell of a row a child with the role cell or header (also those that are out)")
    static void rowsAndCellsByRole() {
        for (int role = GROUP; role <= HEADER; role++) {
            boolean cell = role == CELL || role == HEADER;
            SpokenTree x = tree(0, TABLE, 1, ROW, 2, role);
            same("a cell of role " + role, x.cellPlace(3, true), cell ? 0 : NONE);
            same("its row", x.cellPlace(3, false), cell ? 0 : NONE);
            x = tree(0, TABLE, 1, role, 2, CELL);
            same("in a row of role " + role, x.cellPlace(3, true), role == ROW ? 0 : NONE);
            same("its row", x.cellPlace(3, false), role == ROW ? 0 : NONE);
            x = tree(0, role, 1, ROW, 2, CELL);
            same("in a table of role " + role, x.cellPlace(3, true), role == TABLE ? 0 : NONE);
            same("its row", x.cellPlace(3, false), role == TABLE ? 0 : NONE);
        }
        SpokenTree x = usual();
        x.set(1, HIDDEN, 1);
        x.set(2, HIDDEN, 1);
        x.set(7, HIDDEN, 1);
        same("behind a cell that is out", x.cellPlace(8, true), 1);
        same("below a row that is out", x.cellPlace(8, false), 1);
        same("one that is out itself", x.cellPlace(7, true), 0);
        same("in a row that is out", x.cellPlace(3, false), 0);
    }

    @Says(promise = 30, value = "rows of a table and cells of a row are numbered from 0 in their order.")
    static void onlyRowsAndCellsCount() {
        SpokenTree x = tree(0, TABLE, 1, GROUP, 1, ROW, 1, CELL, 1, ROW, 5, TEXT, 5, CELL, 5, ROW, 5, HEADER);
        same("the row behind a group", x.cellPlace(7, false), 1);
        same("the cell behind a text", x.cellPlace(7, true), 0);
        same("the header behind a row", x.cellPlace(9, true), 1);
        x.move(5, 1, 0);
        same("the first row then", x.cellPlace(7, false), 0);
        x.move(9, 5, 0);
        same("the first cell then", x.cellPlace(9, true), 0);
        same("and the second", x.cellPlace(7, true), 1);
    }

    @Says(promise = 30, value = "The column of a cell is its number in its row.")
    static void columnsUpTo20() {
        SpokenTree x = tree(0, TABLE, 1, ROW);
        for (int n = 0; n < 21; n++) {
            Check.add(x, 2, n % 2 == 0 ? CELL : HEADER);
        }
        for (int n = 0; n < 21; n++) {
            same("column", x.cellPlace(3 + n, true), n);
            same("row", x.cellPlace(3 + n, false), 0);
            same("the cell there", x.cellAt(1, 0, n), 3 + n);
        }
        SpokenTree y = tree(0, TABLE);
        for (int n = 0; n < 11; n++) {
            Check.add(y, Check.add(y, 1, ROW), CELL);
        }
        for (int n = 0; n < 11; n++) {
            same("column", y.cellPlace(3 + 2 * n, true), 0);
            same("row", y.cellPlace(3 + 2 * n, false), n);
            same("the cell there", y.cellAt(1, n, 0), 3 + 2 * n);
        }
    }

    @Says(promise = 30, value = "`column`: true for its column, false for the number of its row")
    static void columnOrRow() {
        SpokenTree x = usual();
        for (int n = 0; n < 9; n++) {
            int cell = 3 + n + n / 3;
            same("column of " + cell, x.cellPlace(cell, true), n % 3);
            same("row of " + cell, x.cellPlace(cell, false), n / 3);
        }
    }

    @Says(promise = 30, value = "Returns that number; NONE if it is no cell of a row of a table.")
    static void placeOrNone() {
        SpokenTree x = usual();
        for (int node : new int[] {0, 1, 2, 6, 10}) {
            same("column of " + node, x.cellPlace(node, true), NONE);
            same("row of " + node, x.cellPlace(node, false), NONE);
        }
        x.move(8, 1, 0);
        same("a cell in a table without a row", x.cellPlace(8, true), NONE);
        x.move(8, 7, 0);
        same("a cell in a cell", x.cellPlace(8, true), NONE);
        x.move(10, 6, 0);
        same("a row in a row", x.cellPlace(12, false), NONE);
        x.move(10, 0, 0);
        same("a row below the root", x.cellPlace(12, false), NONE);
        SpokenTree y = tree(0, CELL, 0, ROW, 2, HEADER);
        same("a cell below the root", y.cellPlace(1, true), NONE);
        same("a header in a row of the root", y.cellPlace(3, true), NONE);
    }

    @Says(promise = 30, value = "Throws `IndexOutOfBoundsException` if there is no such node")
    static void noNodeForPlace() {
        noSuchNode((x, node) -> x.cellPlace(node, true));
        noSuchNode((x, node) -> x.cellPlace(node, false));
    }

    @Says(promise = 30, value = "Returns the place of a cell.")
    static void placesInTwoTables() {
        SpokenTree x = tree(0, TABLE, 1, ROW, 2, CELL, 3, TABLE, 4, ROW, 5, CELL, 4, ROW, 7, CELL, 7, CELL);
        same("of the table in a cell", x.cellPlace(9, true), 1);
        same("its row", x.cellPlace(9, false), 1);
        same("of the outer one", x.cellPlace(3, false), 0);
    }

    // ---- 31, cellAt

    @Says(promise = 31, value = "Returns the cell; NONE if there is none, or the node is no table.")
    static void cellOrNone() {
        SpokenTree x = usual();
        same("the first", x.cellAt(1, 0, 0), 3);
        same("the last", x.cellAt(1, 2, 2), 13);
        same("row 3", x.cellAt(1, 3, 2), NONE);
        same("column 3", x.cellAt(1, 2, 3), NONE);
        same("at the end of int", x.cellAt(1, HIGHEST, HIGHEST), NONE);
        for (int node : new int[] {0, 2, 3, 8, 13}) {
            same("node " + node + " is no table", x.cellAt(node, 0, 0), NONE);
        }
        same("without rows", tree(0, TABLE).cellAt(1, 0, 0), NONE);
        same("without cells", tree(0, TABLE, 1, ROW).cellAt(1, 0, 0), NONE);
        x.remove(9);
        same("a short row", x.cellAt(1, 1, 2), NONE);
        same("the row below it", x.cellAt(1, 2, 2), 13);
    }

    @Says(promise = 31, value = "Positions, places and indices may be negative where NONE is returned")
    static void negativeCell() {
        for (int n : new int[] {-1, -2, LOWEST}) {
            same("row", usual().cellAt(1, n, 0), NONE);
            same("column", usual().cellAt(1, 0, n), NONE);
            same("both", usual().cellAt(1, n, n), NONE);
            same("of the root", usual().cellAt(0, n, n), NONE);
        }
    }

    @Says(promise = 31, value = "`row`: the number of the row")
    static void rowsOfATable() {
        SpokenTree x = usual();
        x.create(1, 0, GROUP);
        x.create(1, 2, CELL);
        for (int row = 0; row < 3; row++) {
            same("row " + row, x.cellAt(1, row, 0), 3 + 4 * row);
        }
        x.set(6, HIDDEN, 1);
        same("one that is out", x.cellAt(1, 1, 0), 7);
        x.remove(6);
        same("the next one then", x.cellAt(1, 1, 0), 11);
        same("no third", x.cellAt(1, 2, 0), NONE);
    }

    @Says(promise = 31, value = "`column`: the column")
    static void columnsOfARow() {
        SpokenTree x = usual();
        x.create(6, 0, TEXT);
        x.create(6, 2, ROW);
        for (int column = 0; column < 3; column++) {
            same("column " + column, x.cellAt(1, 1, column), 7 + column);
        }
        x.set(7, HIDDEN, 1);
        same("one that is out", x.cellAt(1, 1, 0), 7);
        x.remove(7);
        same("the next one then", x.cellAt(1, 1, 0), 8);
        same("no third", x.cellAt(1, 1, 2), NONE);
    }

    @Says(promise = 31, value = "Throws `IndexOutOfBoundsException` if there is no such node")
    static void noNodeForCell() {
        noSuchNode((x, node) -> x.cellAt(node, 0, 0));
    }

    @Says(promise = 31, value = "NONE is returned only if no exception applies.")
    static void noCellOfNoNode() {
        refused(OUTSIDE, TableBoundaries::usual, x -> x.cellAt(24, -1, -1));
        refused(OUTSIDE, TableBoundaries::usual, x -> x.cellAt(-1, 99, 99));
        refused(OUTSIDE, TableBoundaries::usual, x -> x.cellAt(14, 0, 0));
    }

    @Says(promise = 31, value = "Returns a cell of a table.")
    static void cellsAndPlacesAgree() {
        SpokenTree x = usual();
        for (int row = 0; row < 3; row++) {
            for (int column = 0; column < 3; column++) {
                int cell = x.cellAt(1, row, column);
                same("row of " + cell, x.cellPlace(cell, false), row);
                same("column of " + cell, x.cellPlace(cell, true), column);
            }
        }
    }

    // ---- 32, header

    @Says(promise = 32, value = "The column header of a cell is the nearest header in the same column in a row before its own")
    static void columnHeaders() {
        SpokenTree x = usual();
        int[] due = {NONE, NONE, NONE, 3, 4, 5, 7, 4, 5};
        for (int n = 0; n < 9; n++) {
            same("of " + (3 + n + n / 3), x.header(3 + n + n / 3, true), due[n]);
        }
        SpokenTree y = table(CELL, CELL, CELL, CELL, CELL, CELL, HEADER, HEADER, HEADER);
        for (int n = 0; n < 9; n++) {
            same("none but in the last row", y.header(3 + n + n / 3, true), NONE);
        }
        x.remove(5);
        same("the row above is short", x.header(9, true), NONE);
        same("two above too", x.header(13, true), NONE);
        SpokenTree z = table(HEADER, HEADER, HEADER, CELL, CELL, CELL, CELL, CELL, CELL);
        z.remove(8);
        same("through a short row", z.header(13, true), 5);
        z.move(10, 1, 0);
        same("moved to the top", z.header(13, true), NONE);
    }

    @Says(promise = 32, value = "the row header the nearest header before it in its row.")
    static void rowHeaders() {
        SpokenTree x = usual();
        int[] due = {NONE, 3, 4, NONE, 7, 7, NONE, 11, 11};
        for (int n = 0; n < 9; n++) {
            same("of " + (3 + n + n / 3), x.header(3 + n + n / 3, false), due[n]);
        }
        x.create(10, 1, TEXT);
        same("past a text", x.header(12, false), 11);
        x.move(11, 10, 2);
        same("behind it, it is none", x.header(12, false), NONE);
        same("but for what follows", x.header(13, false), 11);
        SpokenTree y = table(CELL, CELL, HEADER, CELL, CELL, CELL, CELL, CELL, CELL);
        for (int n = 0; n < 9; n++) {
            same("none but at the end", y.header(3 + n + n / 3, false), NONE);
        }
    }

    @Says(promise = 32, value = "`column`: true for its column header, false for its row header")
    static void columnOrRowHeader() {
        SpokenTree x = usual();
        same("column", x.header(8, true), 4);
        same("row", x.header(8, false), 7);
        x.set(4, HIDDEN, 1);
        x.set(7, HIDDEN, 1);
        same("a column header that is out", x.header(8, true), 4);
        same("a row header that is out", x.header(8, false), 7);
    }

    @Says(promise = 32, value = "Returns the header; NONE if there is none, or the node is no cell of a row of a table.")
    static void headerOrNone() {
        SpokenTree x = usual();
        for (int node : new int[] {0, 1, 2, 6, 10}) {
            same("column header of " + node, x.header(node, true), NONE);
            same("row header of " + node, x.header(node, false), NONE);
        }
        x.move(6, 0, 0);
        same("row of no table", x.header(8, true), NONE);
        same("with a header in it", x.header(8, false), NONE);
        same("the first cell", x.header(3, false), NONE);
        SpokenTree y = tree(0, ROW, 1, HEADER, 1, CELL);
        same("no table at all", y.header(3, false), NONE);
    }

    @Says(promise = 32, value = "Throws `IndexOutOfBoundsException` if there is no such node")
    static void noNodeForHeader() {
        noSuchNode((x, node) -> x.header(node, true));
        noSuchNode((x, node) -> x.header(node, false));
    }

    @Says(promise = 32, value = "Returns a header of a cell.")
    static void headersFarAway() {
        SpokenTree x = tree(0, TABLE, 1, ROW, 2, HEADER);
        for (int n = 0; n < 10; n++) {
            Check.add(x, Check.add(x, 1, ROW), CELL);
        }
        same("ten rows above", x.header(23, true), 3);
        SpokenTree y = tree(0, TABLE, 1, ROW, 2, HEADER);
        for (int n = 0; n < 20; n++) {
            Check.add(y, 2, CELL);
        }
        same("twenty cells before", y.header(23, false), 3);
        same("not the one above the row", y.header(23, true), NONE);
    }

    // ---- 33, read

    @Says(promise = 33, value = "these words, joined, are what was spoken last: the part of its row header, if it has one")
    static void withAllHeaders() {
        String[] due = {"A", "A B", "B C", "A D", "D B E", "D C F", "D G", "G B H", "G C I"};
        for (int n = 0; n < 9; n++) {
            says(usual(), 3 + n + n / 3, due[n]);
        }
    }

    @Says(promise = 33, value = "unless the cell read last still exists and has the same row header; the part of its column header likewise")
    static void headersOnlyOnce() {
        SpokenTree x = usual();
        says(x, 8, "D B E");
        says(x, 9, "C F");
        says(x, 13, "G I");
        says(x, 13, "I");
        says(x, 12, "B H");
        says(x, 7, "A D");
        says(x, 11, "D G");
        says(x, 3, "A");
        says(x, 7, "A D");
    }

    @Says(promise = 33, value = "unless the cell read last still exists")
    static void afterTheCellIsGone() {
        SpokenTree x = after(8);
        x.remove(8);
        says(x, 9, "D B F");
        x = after(8);
        x.move(8, 0, 0);
        says(x, 9, "D B F");
        x = after(8);
        x.remove(8);
        x.create(6, 1, CELL);
        Check.label(x, 8, "E");
        same("its number used again", told(x, y -> y.readBeside(1)), "IllegalStateException");
        says(x, 8, "D B E");
        x = after(8);
        x.remove(9);
        says(x, 8, "E");
    }

    @Says(promise = 33, value = "has the same row header")
    static void theSameHeaderAsItStandsNow() {
        SpokenTree x = after(8);
        x.remove(7);
        says(x, 9, "B F");
        x = after(8);
        x.move(8, 10, 1);
        says(x, 12, "C H");
        x = table(CELL, CELL, CELL, CELL, CELL, CELL, CELL, CELL, CELL);
        says(x, 3, "A");
        says(x, 13, "I");
    }

    @Says(promise = 33, value = "its own part.")
    static void emptyPartsAreLeftOut() {
        SpokenTree x = usual();
        Check.label(x, 7, "");
        says(x, 8, "B E");
        x = usual();
        Check.label(x, 4, "");
        says(x, 8, "D E");
        x = usual();
        Check.label(x, 8, "");
        says(x, 8, "D B");
        same("nothing behind it", x.spoken(3), NONE);
        Check.add(x, 8, TEXT);
        Check.text(x, 14, "in");
        says(x, 8, "in");
        Check.text(x, 14, "");
        says(x, 8, "");
        same("nothing was spoken", x.spoken(0), NONE);
        x.set(12, HIDDEN, 1);
        x.set(11, HIDDEN, 1);
        says(x, 12, "G H");
    }

    @Says(promise = 33, value = "Then it is remembered.")
    static void theCellIsRemembered() {
        SpokenTree x = usual();
        x.read(3);
        x.read(8);
        same("the last one", x.readBeside(1), 9);
    }

    @Says(promise = 33, value = "One cell, or none (as at first), is remembered as read last.")
    static void noneIsRememberedAtFirst() {
        refused(STATE, TableBoundaries::usual, (x, n) -> x.readBeside(n), 0, 1, 2, 3);
        says(usual(), 8, "D B E");
    }

    @Says(promise = 33, value = "Returns the number of characters that were spoken.")
    static void readReturnsTheLength() {
        SpokenTree x = usual();
        same("with two headers", x.read(8), 5);
        same("without", x.read(8), 1);
        Check.label(x, 8, "");
        same("nothing", x.read(8), 0);
        SpokenTree y = tree(0, TABLE, 1, ROW, 2, CELL);
        StringBuilder due = new StringBuilder();
        for (int n = 4; n < 24; n++) {
            Check.add(y, 3, TEXT);
            Check.text(y, n, "12345678");
            due.append(n == 4 ? "" : " ").append("12345678");
        }
        says(y, 3, due.toString());
    }

    @Says(promise = 33, value = "Throws `IllegalStateException` if it is no cell of a row of a table")
    static void onlyCellsAreRead() {
        refused(STATE, () -> after(8), (x, n) -> x.read(n), 0, 1, 2, 6, 10);
        refused(STATE, () -> {
            SpokenTree x = after(8);
            x.move(8, 1, 0);
            return x;
        }, x -> x.read(8));
        refused(STATE, () -> {
            SpokenTree x = after(8);
            x.move(6, 0, 0);
            return x;
        }, x -> x.read(8));
        same("a cell that is out", told(busy(), x -> x.set(8, HIDDEN, 1) + x.read(8)), "nothing");
    }

    @Says(promise = 33, value = "Throws `IndexOutOfBoundsException` if there is no such node")
    static void noNodeToRead() {
        noSuchNode(SpokenTree::read);
    }

    @Says(promise = 33, value = "Reads a cell.")
    static void readingLeavesTheQueue() {
        SpokenTree x = busy();
        String before = Check.queue(x);
        int focus = x.focus();
        x.read(8);
        same("queue", Check.queue(x), before);
        same("focus", x.focus(), focus);
    }

    @Says(promise = 33, value = "Undoable.")
    static void readIsUndoable() {
        undoable(TableBoundaries::usual, x -> x.read(8));
        undoable(() -> after(8), x -> x.read(13));
        undoable(() -> after(8), x -> x.read(8));
    }

    // ---- 34, readBeside

    @Says(promise = 34, value = "`direction`: 0 left, 1 right, 2 above, 3 below (in the same column of the row directly above or below)")
    static void fourDirections() {
        int[][] due = {{3, NONE, 4, NONE, 7}, {4, 3, 5, NONE, 8}, {5, 4, NONE, NONE, 9}, {7, NONE, 8, 3, 11},
            {8, 7, 9, 4, 12}, {9, 8, NONE, 5, 13}, {11, NONE, 12, 7, NONE}, {12, 11, 13, 8, NONE},
            {13, 12, NONE, 9, NONE}};
        for (int[] row : due) {
            for (int n = 0; n < 4; n++) {
                int direction = n;
                if (row[1 + n] == NONE) {
                    refused(STATE, () -> after(row[0]), x -> x.readBeside(direction));
                } else {
                    same("from " + row[0] + " to " + n, after(row[0]).readBeside(n), row[1 + n]);
                }
            }
        }
    }

    @Says(promise = 34, value = "(in the same column of the row directly above or below)")
    static void shortRowsAreNotJumped() {
        refused(STATE, () -> {
            SpokenTree x = after(5);
            x.remove(9);
            return x;
        }, x -> x.readBeside(3));
        refused(STATE, () -> {
            SpokenTree x = after(13);
            x.remove(9);
            return x;
        }, x -> x.readBeside(2));
        SpokenTree x = after(5);
        x.create(1, 1, GROUP);
        same("past a group between", x.readBeside(3), 9);
        x.set(6, HIDDEN, 1);
        x.read(5);
        same("into a row that is out", x.readBeside(3), 9);
        SpokenTree y = after(5);
        y.create(1, 1, ROW);
        same("an empty row between", told(y, z -> z.readBeside(3)), "IllegalStateException");
    }

    @Says(promise = 34, value = "Throws `IllegalArgumentException` if direction is out of range")
    static void directionsBeyond() {
        refused(ARGUMENT, () -> after(8), SpokenTree::readBeside, -1, 4, 5, LOWEST, HIGHEST);
        same("direction 0", told(after(8), x -> x.readBeside(0)), "nothing");
        same("direction 3", told(after(8), x -> x.readBeside(3)), "nothing");
    }

    @Says(promise = 34, value = "if no cell is remembered that is still a cell of a row of a table")
    static void noCellIsRemembered() {
        int[][] moves = {{8, 1}, {8, 0}, {6, 0}, {6, 10}, {8, 7}};
        for (int[] move : moves) {
            refused(STATE, () -> {
                SpokenTree x = after(8);
                x.move(move[0], move[1], 0);
                return x;
            }, (x, n) -> x.readBeside(n), 0, 1, 2, 3);
        }
        for (int node : new int[] {1, 6, 8}) {
            refused(STATE, () -> {
                SpokenTree x = after(8);
                x.remove(node);
                return x;
            }, (x, n) -> x.readBeside(n), 0, 1, 2, 3);
        }
        SpokenTree x = after(8);
        x.move(6, 0, 0);
        x.move(6, 1, 1);
        same("a cell again", x.readBeside(1), 9);
    }

    @Says(promise = 34, value = "or there is no cell beside it")
    static void aloneInItsTable() {
        refused(STATE, () -> {
            SpokenTree x = tree(0, TABLE, 1, ROW, 2, CELL, 2, TEXT, 1, ROW, 5, BUTTON);
            x.read(3);
            return x;
        }, (x, n) -> x.readBeside(n), 0, 1, 2, 3);
    }

    @Says(promise = 34, value = "If several exceptions of a method apply, the one that is listed first is thrown.")
    static void readBesideThrowsInOrder() {
        refused(ARGUMENT, SpokenTree::new, SpokenTree::readBeside, -1, 4);
        refused(ARGUMENT, TableBoundaries::usual, SpokenTree::readBeside, -1, 4);
    }

    @Says(promise = 34, value = "Returns the cell.")
    static void readBesideReturnsTheCell() {
        SpokenTree x = after(3);
        int[] directions = {1, 1, 3, 3, 0, 0, 2, 2};
        int[] due = {4, 5, 9, 13, 12, 11, 7, 3};
        for (int n = 0; n < due.length; n++) {
            same("step " + n, x.readBeside(directions[n]), due[n]);
        }
    }

    @Says(promise = 34, value = "Reads the cell beside the one that was read last.")
    static void wordsOfTheCellBeside() {
        SpokenTree x = after(8);
        x.readBeside(1);
        same("right", Check.spoken(x), "C F");
        x.readBeside(3);
        same("below", Check.spoken(x), "G I");
        x.readBeside(0);
        same("left", Check.spoken(x), "B H");
        x.readBeside(2);
        same("above", Check.spoken(x), "D E");
    }

    @Says(promise = 34, value = "Undoable.")
    static void readBesideIsUndoable() {
        for (int direction = 0; direction < 4; direction++) {
            int to = direction;
            undoable(() -> after(8), x -> x.readBeside(to));
        }
    }
}
