import java.math.BigInteger;

/** Boundary cases of promises 35 to 38: the buffer, undo and the checksum. */
final class RecordBoundaries extends Boundaries {
    private static SpokenTree typed(String words) {
        SpokenTree x = busy();
        Check.fill(x, words);
        return x;
    }

    /** So many records, of which each changes the root's tab number: 1, 2 and so on. */
    private static SpokenTree recorded(int count) {
        SpokenTree x = tree(0, BUTTON);
        for (int n = 1; n <= count; n++) {
            x.set(0, TAB_NUMBER, n);
        }
        return x;
    }

    // ---- 35, type

    @Says(promise = 35, value = "There is a buffer of at most 8 characters with codes from 33 to 126, at first empty.")
    static void theBufferFromNoneToEight() {
        SpokenTree x = new SpokenTree();
        same("at first", x.setLabel(0), 0);
        for (int n = 1; n <= 8; n++) {
            same("length", x.type('a' + n), n);
            same("of the label", x.setLabel(0), n);
        }
        same("the ninth", told(x, y -> y.type('z')), "IllegalStateException");
        same("all eight", Check.words(x, 0, 1), "bcdefghi");
    }

    @Says(promise = 35, value = "`c`: its code, 33 to 126")
    static void codesFrom33To126() {
        for (int c = 33; c <= 126; c++) {
            SpokenTree x = new SpokenTree();
            same("length with " + c, x.type(c), 1);
            x.setLabel(0);
            same("code", x.character(0, 1, 0), c);
        }
    }

    @Says(promise = 35, value = "Throws `IllegalArgumentException` if c is out of range")
    static void codesBeyond() {
        refused(ARGUMENT, Boundaries::busy, SpokenTree::type, 32, 127, 0, -1, 31, 128, 255, 256 + 33, 65536 + 65,
                LOWEST, HIGHEST);
        same("33", told(busy(), x -> x.type(33)), "nothing");
        same("126", told(busy(), x -> x.type(126)), "nothing");
    }

    @Says(promise = 35, value = "Throws `IllegalStateException` if the buffer has 8 characters")
    static void theBufferIsFull() {
        refused(STATE, () -> typed("12345678"), SpokenTree::type, 33, 65, 126);
        same("with seven", told(typed("1234567"), x -> x.type('8')), "nothing");
        SpokenTree x = typed("12345678");
        x.clearText();
        same("emptied", told(x, y -> y.type('8')), "nothing");
    }

    @Says(promise = 35, value = "If several exceptions of a method apply, the one that is listed first is thrown.")
    static void typeThrowsInOrder() {
        refused(ARGUMENT, () -> typed("12345678"), SpokenTree::type, 32, 127, LOWEST, HIGHEST);
    }

    @Says(promise = 35, value = "Returns the length of the buffer then.")
    static void typeReturnsTheLength() {
        SpokenTree x = new SpokenTree();
        for (int round = 0; round < 3; round++) {
            for (int n = 1; n <= 8; n++) {
                same("length", x.type(33), n);
            }
            x.clearText();
        }
    }

    @Says(promise = 35, value = "Appends a character to the buffer.")
    static void appendedBehind() {
        SpokenTree x = new SpokenTree();
        x.type('!');
        x.type('~');
        x.type('!');
        x.setLabel(0);
        same("in order", Check.words(x, 0, 1), "!~!");
        same("no record is made by it", records(x), 1);
    }

    // ---- 36, clearText

    @Says(promise = 36, value = "Returns the length that it had.")
    static void clearTextFromNoneToEight() {
        for (int n = 0; n <= 8; n++) {
            SpokenTree x = typed("12345678".substring(0, n));
            same("length", x.clearText(), n);
            same("once more", x.clearText(), 0);
        }
        same("a new object", new SpokenTree().clearText(), 0);
    }

    @Says(promise = 36, value = "Empties the buffer.")
    static void theBufferIsEmptied() {
        SpokenTree x = tree(0, FIELD);
        Check.text(x, 1, "12345678");
        x.clearText();
        same("the text stays", Check.words(x, 1, 0), "12345678");
        same("an empty text", x.setText(1), 0);
        same("from the start", x.type('z'), 1);
        x.setText(1);
        same("nothing old is left", Check.words(x, 1, 0), "z");
        bare(x);
        x.clearText();
        same("no record is made by it", records(x), 0);
    }

    // ---- 37, undo

    @Says(promise = 37, value = "At most 5 records are kept; when one more is made, the oldest is dropped.")
    static void fiveRecords() {
        for (int made = 0; made <= 8; made++) {
            SpokenTree x = recorded(made);
            int kept = Math.min(made, 5);
            for (int n = 1; n <= kept; n++) {
                same("left of " + made, x.undo(), kept - n);
                same("tab number", x.info(0, 9), made - n);
            }
            same("no more", told(x, SpokenTree::undo), "IllegalStateException");
        }
    }

    @Says(promise = 37, value = "Returns how many records are left.")
    static void undoReturnsWhatIsLeft() {
        SpokenTree x = recorded(6);
        same("of five", x.undo(), 4);
        x.set(0, TAB_NUMBER, 9);
        same("five again, less one", x.undo(), 4);
        for (int left = 3; left >= 0; left--) {
            same("left", x.undo(), left);
        }
        x.speak();
        same("of one", x.undo(), 0);
    }

    @Says(promise = 37, value = "Throws `IllegalStateException` if there is none")
    static void noRecord() {
        refused(STATE, SpokenTree::new, SpokenTree::undo);
        refused(STATE, () -> bare(busy()), SpokenTree::undo);
        refused(STATE, () -> {
            SpokenTree x = recorded(1);
            x.undo();
            return x;
        }, SpokenTree::undo);
        same("with one", told(recorded(1), SpokenTree::undo), "nothing");
        SpokenTree x = recorded(7);
        for (int n = 0; n < 5; n++) {
            x.undo();
        }
        same("after five", told(x, SpokenTree::undo), "IllegalStateException");
    }

    @Says(promise = 37, value = "undo() restores the latest one and removes it.")
    static void theLatestFirst() {
        SpokenTree x = recorded(3);
        x.undo();
        same("the latest", x.info(0, 9), 2);
        x.set(0, TAB_NUMBER, 7);
        x.undo();
        same("made after an undo", x.info(0, 9), 2);
        x.undo();
        same("the one before", x.info(0, 9), 1);
        x.undo();
        same("the first", x.info(0, 9), 0);
    }

    @Says(promise = 37, value = "Restores the latest record and removes it.")
    static void undoMakesNoRecord() {
        for (int made = 1; made <= 6; made++) {
            SpokenTree x = recorded(made);
            x.undo();
            same("records", records(x), Math.min(made, 5) - 1);
        }
    }

    @Says(promise = 37, value = "records the nodes, the dialogs with the order in which they were opened, what is remembered, the queue and what was spoken last, as they were before the call, when it ends normally (also if nothing changes).")
    static void allOfItComesBack() {
        Call[] calls = {x -> x.create(2, 0, TEXT), x -> x.remove(2), x -> x.remove(5), x -> x.remove(9),
            x -> x.move(10, 2, 0), x -> x.set(3, DISABLED, 1), x -> x.setText(4), x -> x.setLabel(8),
            x -> x.setLabelledBy(8, 0), x -> x.focusOn(3), x -> x.step(true), x -> x.close(9), x -> x.close(2),
            x -> x.speak(), x -> x.silence(), x -> x.read(7), x -> x.readBeside(0)};
        for (Call call : calls) {
            undoable(Boundaries::busy, call);
        }
        for (Call first : calls) {
            for (Call second : calls) {
                SpokenTree x = bare(busy());
                told(x, first);
                String before = Check.shown(x);
                if (told(x, second).equals("nothing")) {
                    x.undo();
                }
                same("the second of two undone", Check.shown(x), before);
            }
        }
    }

    @Says(promise = 37, value = "(also if nothing changes)")
    static void recordsOfNothing() {
        Call[] calls = {x -> x.move(1, 0, 0), x -> x.set(1, DISABLED, 0), x -> x.setLabel(1), x -> x.setText(2),
            x -> x.setLabelledBy(1, NONE), x -> x.step(false), x -> x.step(true), x -> x.speak(), x -> x.silence()};
        for (Call call : calls) {
            SpokenTree x = tree(0, GROUP, 0, TEXT);
            String before = Check.shown(x);
            call.on(x);
            same("a record", x.undo(), 0);
            same("nothing has changed", Check.shown(x), before);
        }
    }

    @Says(promise = 37, value = "Every method that is marked \"undoable\" records")
    static void othersMakeNoRecord() {
        Call[] calls = {x -> x.nodes(), x -> x.info(1, 0), x -> x.child(0, 0), x -> x.character(1, 3, 0),
            x -> x.length(1, 3), x -> x.inOrder(0), x -> x.canFocus(1) ? 1 : 0, x -> x.focusOrder(0), x -> x.focus(),
            x -> x.trap(), x -> x.region(1), x -> x.pending(), x -> x.announcement(0, 0), x -> x.announced(0, 0),
            x -> x.spoken(0), x -> x.cellPlace(8, true), x -> x.cellAt(5, 0, 0), x -> x.header(8, false),
            x -> x.type('a'), x -> x.clearText(), x -> x.checksum()};
        for (int n = 0; n < calls.length; n++) {
            SpokenTree x = busy();
            same("call " + n, told(x, calls[n]), "nothing");
            same("records after call " + n, records(x), 2);
        }
    }

    @Says(promise = 37, value = "A call that throws an exception changes nothing.")
    static void noRecordOfWhatThrows() {
        Call[] calls = {x -> x.create(24, 0, 0), x -> x.create(0, 0, 11), x -> x.remove(0), x -> x.remove(24),
            x -> x.move(0, 1, 0), x -> x.move(1, 24, 0), x -> x.move(1, 0, 99), x -> x.set(0, 0, 1),
            x -> x.set(1, 5, 0), x -> x.setText(0), x -> x.setText(24), x -> x.setLabel(24),
            x -> x.setLabelledBy(1, 1), x -> x.setLabelledBy(1, 24), x -> x.focusOn(0), x -> x.focusOn(24),
            x -> x.open(1), x -> x.open(2), x -> x.open(24), x -> x.close(1), x -> x.close(24), x -> x.read(0),
            x -> x.read(24), x -> x.readBeside(4), x -> x.readBeside(1)};
        for (int n = 0; n < calls.length; n++) {
            SpokenTree x = busy();
            String before = Check.shown(x);
            no("call " + n + " ends normally", told(x, calls[n]).equals("nothing"));
            same("after call " + n, Check.shown(x), before);
            same("records after call " + n, records(x), 2);
        }
    }

    @Says(promise = 37, value = "There is a buffer of at most 8 characters")
    static void theBufferIsNotRestored() {
        SpokenTree x = new SpokenTree();
        Check.fill(x, "abc");
        x.setLabel(0);
        Check.fill(x, "12345678");
        x.undo();
        same("the label is", x.info(0, 5), 0);
        same("the buffer is not", x.setLabel(0), 8);
        x.undo();
        x.clearText();
        same("nor is its emptiness", told(x, SpokenTree::undo), "IllegalStateException");
    }

    // ---- 38, checksum

    /** The sum of the numbers by the words of the document, with numbers of any size, cut to a long at the end. */
    private static long sum(SpokenTree x, int bufferLength, int records) {
        BigInteger[] h = {BigInteger.valueOf(18379)};
        add(h, x.nodes());
        for (int place = 0; x.inOrder(place) != NONE; place++) {
            int node = x.inOrder(place);
            add(h, node);
            for (int what = 0; what <= 14; what++) {
                add(h, x.info(node, what));
            }
            add(h, Check.words(x, node, 3));
        }
        add(h, x.focus());
        add(h, x.trap());
        for (int place = 0; x.focusOrder(place) != NONE; place++) {
            add(h, x.focusOrder(place));
        }
        add(h, x.pending());
        for (int k = 0; k < x.pending(); k++) {
            for (int what = 0; what <= 3; what++) {
                add(h, x.announcement(k, what));
            }
            add(h, Check.announced(x, k));
        }
        add(h, Check.spoken(x));
        add(h, bufferLength);
        add(h, records);
        return h[0].longValue();
    }

    private static void add(BigInteger[] h, long v) {
        h[0] = h[0].multiply(BigInteger.valueOf(31)).add(BigInteger.valueOf(v));
    }

    private static void add(BigInteger[] h, String words) {
        for (int index = 0; index < words.length(); index++) {
            add(h, words.charAt(index));
        }
    }

    @Says(promise = 38, value = "It starts with h = 18379, and for each of the following numbers v, in order, h becomes 31 * h + v (long arithmetic that wraps)")
    static void theSumWrapsAround() {
        same("a new object", new SpokenTree().checksum(), sum(new SpokenTree(), 0, 0));
        same("busy", busy().checksum(), sum(busy(), 3, 2));
        same("23 links", full(LINK).checksum(), sum(full(LINK), 0, 0));
        same("a chain", chain(FIELD).checksum(), sum(chain(FIELD), 0, 0));
        int below = 0;
        int above = 0;
        SpokenTree x = full(BUTTON);
        for (int node = 23; node > 0; node--) {
            x.remove(node);
            long sum = x.checksum();
            same("without " + node, sum, sum(x, 0, Math.min(24 - node, 5)));
            below += sum < 0 ? 1 : 0;
            above += sum > 0 ? 1 : 0;
        }
        yes("some are below 0", below > 0);
        yes("some are above 0", above > 0);
    }

    @Says(promise = 38, value = "the length of the buffer; the number of records.")
    static void buffersAndRecordsInTheSum() {
        for (int length = 0; length <= 8; length++) {
            SpokenTree x = new SpokenTree();
            for (int records = 0; records <= 6; records++) {
                if (records > 0) {
                    x.speak();
                }
                Check.fill(x, "12345678".substring(0, length));
                same("with " + length + " and " + records, x.checksum(), sum(x, length, Math.min(records, 5)));
            }
        }
    }

    @Says(promise = 38, value = "the number of announcements, and for each of them the results of announcement() for 0 to 3 and its characters")
    static void theQueueInTheSum() {
        SpokenTree x = full(TEXT);
        x.set(0, LIVE, 3);
        bare(x);
        for (int node = 1; node < 13; node++) {
            Check.text(x, node, "t" + node);
            same("with " + node, x.checksum(), sum(x, node < 10 ? 2 : 3, Math.min(node, 5)));
        }
    }

    @Says(promise = 38, value = "Computes a checksum.")
    static void theSumChangesNothing() {
        same("all the same", Story.of(() -> {
            SpokenTree x = busy();
            x.checksum();
            return x;
        }), Story.of(Boundaries::busy));
    }

    @Says(promise = 38, value = "Returns the checksum.")
    static void theSumTellsApart() {
        Call[] calls = {x -> x.create(0, 0, 0), x -> x.remove(4), x -> x.move(1, 0, 1), x -> x.set(1, DISABLED, 1),
            x -> x.setText(4), x -> x.setLabel(0), x -> x.setLabelledBy(1, 0), x -> x.close(2), x -> x.speak(),
            x -> x.silence(), x -> x.read(7), x -> x.type('a'), x -> x.clearText(), x -> x.undo()};
        long before = busy().checksum();
        for (int n = 0; n < calls.length; n++) {
            SpokenTree x = busy();
            calls[n].on(x);
            no("the same after call " + n, x.checksum() == before);
        }
        same("the same calls, the same sum", busy().checksum(), before);
    }
}
