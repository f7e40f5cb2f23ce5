/** Boundary cases of promises 23 to 29: live regions, the queue of announcements, and speaking. */
final class QueueBoundaries extends Boundaries {
    /** 23 texts below the root; each is its own region, with that setting live, and has no text yet. */
    private static SpokenTree texts(int live) {
        SpokenTree x = full(TEXT);
        for (int node = 1; node < 24; node++) {
            x.set(node, LIVE, live);
        }
        return bare(x);
    }

    private static void announce(SpokenTree x, int from, int to) {
        for (int node = from; node <= to; node++) {
            Check.text(x, node, "t" + node);
        }
    }

    private static String targets(SpokenTree x) {
        StringBuilder all = new StringBuilder();
        for (int k = 0; k < x.pending(); k++) {
            all.append(k == 0 ? "" : " ").append(x.announcement(k, 1));
        }
        return all.toString();
    }

    /** Two assertive announcements, of 1 and 2, and a polite one of 3; all in the root. */
    private static SpokenTree three() {
        SpokenTree x = tree(0, TEXT, 0, TEXT, 0, TEXT, 0, BUTTON);
        x.set(0, LIVE, 3);
        Check.text(x, 1, "a");
        Check.text(x, 2, "bb");
        x.set(0, LIVE, 2);
        Check.text(x, 3, "ccc");
        return bare(x);
    }

    // ---- 23, region

    @Says(promise = 23, value = "The region of a node is the nearest one of it and its ancestors whose setting live is not 0")
    static void theNearestThroughAllLevels() {
        SpokenTree x = chain(TEXT);
        for (int live = 0; live < 24; live++) {
            x.set(live, LIVE, 2);
            for (int node = 0; node < 24; node++) {
                same("of " + node + " with 0 to " + live, x.region(node), Math.min(node, live));
            }
        }
        for (int live = 0; live < 23; live++) {
            x.set(live, LIVE, 0);
        }
        same("itself alone", x.region(23), 23);
        same("not what is below", x.region(22), NONE);
    }

    @Says(promise = 23, value = "if there is none, or its setting is 1, the node is quiet.")
    static void quietByNoneOrOff() {
        int[][] rows = {{0, 0, 0, NONE}, {1, 0, 0, NONE}, {2, 0, 0, 0}, {3, 0, 0, 0}, {2, 1, 0, NONE}, {3, 1, 0, NONE},
            {2, 0, 1, NONE}, {1, 2, 0, 1}, {1, 3, 0, 1}, {1, 1, 2, 2}, {1, 1, 3, 2}, {0, 0, 1, NONE}, {1, 2, 1, NONE}};
        for (int[] row : rows) {
            SpokenTree x = tree(0, GROUP, 1, TEXT);
            for (int node = 0; node < 3; node++) {
                x.set(node, LIVE, row[node]);
            }
            String name = row[0] + " " + row[1] + " " + row[2];
            same("region with " + name, x.region(2), row[3]);
            Check.text(x, 2, "a");
            same("announced with " + name, x.pending(), row[3] == NONE ? 0 : 1);
        }
    }

    @Says(promise = 23, value = "Returns the region; NONE if the node is quiet.")
    static void regionOrNone() {
        SpokenTree x = full(TEXT);
        same("quiet", x.region(23), NONE);
        x.set(0, LIVE, 2);
        same("the root", x.region(23), 0);
        same("of the root", x.region(0), 0);
        x.set(23, LIVE, 3);
        same("the highest", x.region(23), 23);
        same("of another", x.region(22), 0);
        x.set(23, LIVE, 1);
        same("off", x.region(23), NONE);
    }

    @Says(promise = 23, value = "Returns the region of a node.")
    static void regionOfOnesThatAreOut() {
        SpokenTree x = tree(0, DIALOG, 1, TEXT);
        x.set(0, LIVE, 2);
        x.set(2, HIDDEN, 1);
        same("a hidden node in a closed dialog", x.region(2), 0);
        x.set(1, LIVE, 3);
        same("a closed dialog is one", x.region(2), 1);
        Check.text(x, 2, "a");
        same("but nothing is announced", x.pending(), 0);
    }

    @Says(promise = 23, value = "Throws `IndexOutOfBoundsException` if there is no such node")
    static void noNodeForRegion() {
        noSuchNode(SpokenTree::region);
    }

    // ---- 24, pending: what comes into the queue and goes out of it

    @Says(promise = 24, value = "There is a queue of announcements.")
    static void oneAfterTheOther() {
        SpokenTree x = texts(2);
        announce(x, 3, 5);
        announce(x, 1, 2);
        same("in the order of calls", targets(x), "3 4 5 1 2");
    }

    @Says(promise = 24, value = "Returns the number of announcements in the queue.")
    static void fromNoneToTen() {
        SpokenTree x = texts(2);
        same("none", x.pending(), 0);
        for (int n = 1; n <= 23; n++) {
            announce(x, n, n);
            same("after " + n, x.pending(), Math.min(n, 10));
        }
        for (int left = 9; left >= 0; left--) {
            x.speak();
            same("left", x.pending(), left);
        }
        x.speak();
        same("none again", x.pending(), 0);
    }

    @Says(promise = 24, value = "Returns the number.")
    static void askingForTheNumber() {
        SpokenTree x = three();
        same("three", x.pending(), 3);
        same("asked twice", x.pending(), 3);
        x.focusOn(4);
        same("four", x.pending(), 4);
        x.focusOn(4);
        same("still four", x.pending(), 4);
    }

    @Says(promise = 24, value = "If the queue has 10 announcements before one is appended, the first one with the highest rank number is dropped.")
    static void theEleventhOfOneRank() {
        for (int live = 2; live <= 3; live++) {
            SpokenTree x = texts(live);
            announce(x, 1, 9);
            same("nine", targets(x), "1 2 3 4 5 6 7 8 9");
            announce(x, 10, 10);
            same("ten", targets(x), "1 2 3 4 5 6 7 8 9 10");
            announce(x, 11, 11);
            same("eleven", targets(x), "2 3 4 5 6 7 8 9 10 11");
            announce(x, 12, 12);
            same("twelve", targets(x), "3 4 5 6 7 8 9 10 11 12");
        }
    }

    @Says(promise = 24, value = "the first one with the highest rank number is dropped.")
    static void theFirstPoliteOneIsDropped() {
        for (int polite = 1; polite <= 10; polite++) {
            for (int second = polite + 1; second <= 11; second++) {
                SpokenTree x = texts(3);
                x.set(polite, LIVE, 2);
                x.set(second, LIVE, 2);
                announce(x, 1, 10);
                announce(x, 12, 12);
                StringBuilder due = new StringBuilder();
                for (int node = 1; node <= 10; node++) {
                    due.append(node == polite ? "" : node + " ");
                }
                same("polite are " + polite + " and " + second, targets(x), due + "12");
            }
        }
    }

    @Says(promise = 24, value = "the first one with the highest rank number is dropped.")
    static void alsoIfTheNewOneIsPolite() {
        SpokenTree x = texts(3);
        x.set(11, LIVE, 2);
        x.set(12, LIVE, 2);
        announce(x, 1, 11);
        same("ten assertive ones, then a polite one", targets(x), "2 3 4 5 6 7 8 9 10 11");
        announce(x, 12, 12);
        same("then another polite one", targets(x), "2 3 4 5 6 7 8 9 10 12");
        announce(x, 13, 13);
        same("then an assertive one", targets(x), "2 3 4 5 6 7 8 9 10 13");
    }

    @Says(promise = 24, value = "If the queue has 10 announcements before one is appended")
    static void replacedFirstThenCounted() {
        SpokenTree x = texts(2);
        announce(x, 1, 10);
        Check.text(x, 4, "new");
        same("the same target: none is dropped", targets(x), "1 2 3 5 6 7 8 9 10 4");
        SpokenTree y = tree(0, TEXT, 0, TEXT);
        y.set(0, LIVE, 2);
        for (int n = 1; n <= 9; n++) {
            int node = Check.add(y, 0, TEXT);
            y.set(node, LIVE, 2);
            Check.text(y, node, "t");
        }
        Check.text(y, 1, "a");
        same("ten", targets(y), "3 4 5 6 7 8 9 10 11 1");
        y.set(0, LIVE, 3);
        Check.text(y, 2, "b");
        same("a polite one of the region goes: none is dropped", targets(y), "3 4 5 6 7 8 9 10 11 2");
    }

    @Says(promise = 24, value = "If the queue has 10 announcements before one is appended")
    static void theFocusInAFullQueue() {
        SpokenTree x = texts(3);
        x.remove(23);
        x.create(0, 0, BUTTON);
        announce(x, 1, 9);
        x.focusOn(23);
        same("nine and the focus", targets(x), "1 2 3 4 5 6 7 8 9 23");
        x.focusOn(23);
        same("the focus in place of the focus", targets(x), "1 2 3 4 5 6 7 8 9 23");
        announce(x, 10, 10);
        same("the first assertive one is dropped", targets(x), "2 3 4 5 6 7 8 9 23 10");
        x.speak();
        announce(x, 11, 11);
        same("ten without the focus", targets(x), "2 3 4 5 6 7 8 9 10 11");
        x.focusOn(23);
        same("for the focus too", targets(x), "3 4 5 6 7 8 9 10 11 23");
    }

    @Says(promise = 24, value = "If there is an announcement with the same target and a rank above 0 in the queue, it is removed.")
    static void theSameTarget() {
        for (int first = 2; first <= 3; first++) {
            for (int then = 2; then <= 3; then++) {
                SpokenTree x = texts(first);
                announce(x, 1, 3);
                x.set(2, LIVE, then);
                Check.text(x, 2, "new");
                same("from " + first + " to " + then, targets(x), "1 3 2");
                same("its rank", x.announcement(2, 0), then == 3 ? 1 : 2);
                same("its words", Check.announced(x, 2), "new");
            }
        }
        SpokenTree x = tree(0, BUTTON);
        x.set(0, LIVE, 2);
        Check.label(x, 1, "B");
        x.focusOn(1);
        x.set(1, HIDDEN, 1);
        x.set(1, HIDDEN, 0);
        same("the focus with that target stays", Check.queue(x), "0 1 -1 B button|2 1 0 B");
        x.set(1, HIDDEN, 1);
        x.set(1, HIDDEN, 0);
        same("the change is replaced", Check.queue(x), "0 1 -1 B button|2 1 0 B");
    }

    @Says(promise = 24, value = "If the rank is 1, all announcements with rank 2 and the same region are removed.")
    static void politeOnesOfTheRegionGo() {
        SpokenTree x = tree(0, GROUP, 1, TEXT, 1, TEXT, 1, TEXT, 0, TEXT, 1, TEXT, 1, BUTTON);
        x.set(0, LIVE, 2);
        x.set(1, LIVE, 3);
        Check.text(x, 2, "a");
        x.set(1, LIVE, 2);
        Check.text(x, 3, "b");
        Check.text(x, 4, "c");
        Check.text(x, 5, "d");
        x.focusOn(7);
        Check.text(x, 6, "e");
        same("a polite one removes none", targets(x), "2 3 4 5 7 6");
        x.set(1, LIVE, 3);
        Check.text(x, 2, "f");
        same("an assertive one all of its region", Check.queue(x), "2 5 0 d|0 7 -1 button|1 2 1 f");
        Check.text(x, 3, "g");
        same("but not the assertive ones", Check.queue(x), "2 5 0 d|0 7 -1 button|1 2 1 f|1 3 1 g");
    }

    @Says(promise = 24, value = "Otherwise the rank is 1 if the setting live of the region is 3, otherwise 2.")
    static void ranksByTheRegion() {
        for (int live = 2; live <= 3; live++) {
            SpokenTree x = tree(0, GROUP, 1, TEXT);
            x.set(0, LIVE, live);
            Check.text(x, 2, "a");
            same("live " + live, x.announcement(0, 0), live == 3 ? 1 : 2);
            same("region", x.announcement(0, 2), 0);
            x.set(1, LIVE, 5 - live);
            Check.text(x, 2, "b");
            same("the nearer one", x.announcement(0, 0), live == 3 ? 2 : 1);
            same("region", x.announcement(0, 2), 1);
        }
    }

    @Says(promise = 24, value = "the target is its region if that is atomic, otherwise the node itself")
    static void theTargetByAtomic() {
        SpokenTree x = tree(0, GROUP, 1, TEXT, 1, TEXT);
        x.set(1, LIVE, 2);
        x.set(0, ATOMIC, 1);
        x.set(2, ATOMIC, 1);
        Check.text(x, 2, "a");
        same("only the region's own setting counts", Check.queue(x), "2 2 1 a");
        x.set(1, ATOMIC, 1);
        Check.text(x, 3, "b");
        same("the region and all of its words", Check.queue(x), "2 2 1 a|2 1 1 a b");
        x.set(2, LIVE, 2);
        Check.text(x, 2, "c");
        same("a region of its own", Check.queue(x), "2 1 1 a b|2 2 2 c");
        x.set(2, LIVE, 0);
        x.set(2, HIDDEN, 1);
        Check.text(x, 3, "d");
        same("without what is out", Check.queue(x), "2 2 2 c|2 1 1 d");
        x.set(2, HIDDEN, 0);
        same("shown again", Check.queue(x), "2 2 2 c|2 1 1 c d");
    }

    @Says(promise = 24, value = "The new one is appended to the queue.")
    static void theNewOneIsTheLast() {
        SpokenTree x = texts(2);
        x.set(3, LIVE, 3);
        announce(x, 1, 4);
        same("whatever its rank", targets(x), "1 2 3 4");
        same("rank", x.announcement(2, 0), 1);
    }

    // ---- 25, announcement

    @Says(promise = 25, value = "Returns that number; NONE if there is no such position.")
    static void noSuchPosition() {
        SpokenTree x = three();
        for (int what = 0; what <= 3; what++) {
            yes("the last, " + what, x.announcement(2, what) != NONE);
            same("behind it, " + what, x.announcement(3, what), NONE);
            same("position 10, " + what, x.announcement(10, what), NONE);
            same("at the end of int, " + what, x.announcement(HIGHEST, what), NONE);
            same("in an empty queue, " + what, new SpokenTree().announcement(0, what), NONE);
        }
        SpokenTree y = texts(2);
        announce(y, 1, 11);
        same("the tenth", y.announcement(9, 1), 11);
        same("the eleventh", y.announcement(10, 1), NONE);
        y.speak();
        same("one less", y.announcement(9, 1), NONE);
    }

    @Says(promise = 25, value = "Positions, places and indices may be negative where NONE is returned")
    static void negativePosition() {
        for (int k : new int[] {-1, -2, LOWEST}) {
            for (int what = 0; what <= 3; what++) {
                same("position " + k, three().announcement(k, what), NONE);
            }
        }
    }

    @Says(promise = 25, value = "`k`: its position, from 0")
    static void positionsFromZero() {
        SpokenTree x = texts(2);
        announce(x, 14, 23);
        for (int k = 0; k < 10; k++) {
            same("target at " + k, x.announcement(k, 1), 14 + k);
        }
    }

    @Says(promise = 25, value = "`what`: 0 its rank, 1 its target, 2 its region (NONE for rank 0), 3 the number of characters of its words")
    static void partsOfAnnouncements() {
        SpokenTree x = three();
        x.focusOn(4);
        int[][] due = {{1, 1, 0, 1}, {1, 2, 0, 2}, {2, 3, 0, 3}, {0, 4, NONE, 6}};
        for (int k = 0; k < 4; k++) {
            for (int what = 0; what <= 3; what++) {
                same("of " + k + ", " + what, x.announcement(k, what), due[k][what]);
            }
        }
    }

    @Says(promise = 25, value = "An announcement has a rank (0 focus, 1 assertive, 2 polite), a target, a region (none for rank 0), and words.")
    static void noRegionForTheFocus() {
        SpokenTree x = tree(0, BUTTON);
        x.set(0, LIVE, 3);
        x.set(1, LIVE, 2);
        x.focusOn(1);
        same("rank", x.announcement(0, 0), 0);
        same("region", x.announcement(0, 2), NONE);
        x.set(1, LIVE, 1);
        x.focusOn(1);
        same("a quiet node is announced too", x.pending(), 1);
    }

    @Says(promise = 25, value = "Throws `IllegalArgumentException` if what is not 0 to 3")
    static void announcementsBeyond() {
        refused(ARGUMENT, QueueBoundaries::three, (x, n) -> x.announcement(0, n), -1, 4, 5, LOWEST, HIGHEST);
        same("what 0", told(three(), x -> x.announcement(0, 0)), "nothing");
        same("what 3", told(three(), x -> x.announcement(0, 3)), "nothing");
    }

    @Says(promise = 25, value = "NONE is returned only if no exception applies.")
    static void noPositionAndNoWhat() {
        refused(ARGUMENT, QueueBoundaries::three, x -> x.announcement(3, 4));
        refused(ARGUMENT, QueueBoundaries::three, x -> x.announcement(-1, -1));
        refused(ARGUMENT, SpokenTree::new, x -> x.announcement(0, 4));
    }

    @Says(promise = 25, value = "Returns something about an announcement in the queue.")
    static void askingChangesNothing() {
        same("all the same", Story.of(() -> {
            SpokenTree x = three();
            x.announcement(1, 1);
            x.announced(1, 1);
            x.pending();
            x.region(1);
            x.spoken(0);
            return x;
        }), Story.of(QueueBoundaries::three));
    }

    // ---- 26, announced

    @Says(promise = 26, value = "Returns its code; NONE if there is no such character.")
    static void noCharacterAnnounced() {
        SpokenTree x = three();
        for (int k = 0; k < 3; k++) {
            same("the first of " + k, x.announced(k, 0), 'a' + k);
            same("the last of " + k, x.announced(k, k), 'a' + k);
            same("behind it", x.announced(k, k + 1), NONE);
            same("at the end of int", x.announced(k, HIGHEST), NONE);
        }
        same("no position", x.announced(3, 0), NONE);
        same("position 10", x.announced(10, 0), NONE);
        same("far away", x.announced(HIGHEST, HIGHEST), NONE);
        same("an empty queue", new SpokenTree().announced(0, 0), NONE);
        x.silence();
        same("all gone", x.announced(0, 0), NONE);
    }

    @Says(promise = 26, value = "Positions, places and indices may be negative where NONE is returned")
    static void negativeAnnounced() {
        SpokenTree x = three();
        for (int n : new int[] {-1, -2, LOWEST}) {
            same("position", x.announced(n, 0), NONE);
            same("index", x.announced(0, n), NONE);
            same("both", x.announced(n, n), NONE);
        }
    }

    @Says(promise = 26, value = "`k`: its position, from 0")
    static void wordsOfTen() {
        SpokenTree x = texts(2);
        announce(x, 1, 12);
        for (int k = 0; k < 10; k++) {
            same("words at " + k, Check.announced(x, k), "t" + (k + 3));
        }
    }

    @Says(promise = 26, value = "`index`: the index of the character")
    static void theLongestAnnouncement() {
        SpokenTree x = full(TEXT);
        x.set(0, LIVE, 3);
        x.set(0, ATOMIC, 1);
        StringBuilder due = new StringBuilder();
        for (int node = 1; node < 24; node++) {
            Check.text(x, node, "1234567" + (char) (64 + node));
            due.append(node == 1 ? "" : " ").append("1234567").append((char) (64 + node));
        }
        same("one announcement", x.pending(), 1);
        same("length", x.announcement(0, 3), 206);
        same("words", Check.announced(x, 0), due.toString());
        same("the last", x.announced(0, 205), 64 + 23);
        same("behind it", x.announced(0, 206), NONE);
    }

    @Says(promise = 26, value = "The words of an announcement do not change any more, whatever happens to nodes.")
    static void wordsStay() {
        SpokenTree x = three();
        x.focusOn(4);
        x.set(0, LIVE, 0);
        Check.text(x, 1, "other");
        Check.label(x, 4, "Go");
        x.set(3, HIDDEN, 1);
        x.set(4, DISABLED, 1);
        x.setLabelledBy(4, 1);
        same("queue", Check.queue(x), "1 1 0 a|1 2 0 bb|2 3 0 ccc|0 4 -1 button");
        x.set(0, LIVE, 2);
        x.move(1, 2, 0);
        same("after a move", Check.queue(x), "1 1 0 a|1 2 0 bb|2 3 0 ccc|0 4 -1 button");
    }

    @Says(promise = 26, value = "Returns a character of the words of an announcement.")
    static void eachCharacter() {
        SpokenTree x = tree(0, LINK);
        Check.label(x, 1, "!~");
        x.focusOn(1);
        String due = "!~ link";
        for (int index = 0; index < due.length(); index++) {
            same("index " + index, x.announced(0, index), due.charAt(index));
        }
    }

    // ---- 27, speak

    @Says(promise = 27, value = "the first announcement with the lowest rank number is removed from the queue")
    static void theLowestRankFirst() {
        SpokenTree x = three();
        x.focusOn(4);
        String[] words = {"button", "a", "bb", "ccc"};
        String[] left = {"1 2 3", "2 3", "3", ""};
        for (int n = 0; n < 4; n++) {
            same("length", x.speak(), words[n].length());
            same("spoken", Check.spoken(x), words[n]);
            same("left", targets(x), left[n]);
        }
        for (int assertive = 1; assertive <= 10; assertive++) {
            SpokenTree y = texts(2);
            y.set(assertive, LIVE, 3);
            announce(y, 1, 10);
            y.speak();
            same("the only assertive one", Check.spoken(y), "t" + assertive);
            y.speak();
            same("then the first polite one", Check.spoken(y), assertive == 1 ? "t2" : "t1");
        }
    }

    @Says(promise = 27, value = "its words are what was spoken last.")
    static void onlyTheLastIsSpoken() {
        SpokenTree x = tree(0, BUTTON, 0, TEXT);
        x.set(0, LIVE, 2);
        x.focusOn(1);
        x.speak();
        same("first", Check.spoken(x), "button");
        Check.text(x, 2, "a");
        same("not before it is spoken", Check.spoken(x), "button");
        x.speak();
        same("shorter", Check.spoken(x), "a");
        same("nothing of the longer one is left", x.spoken(1), NONE);
    }

    @Says(promise = 27, value = "NONE if the queue is empty (then nothing changes but that a record is made).")
    static void speakingAnEmptyQueue() {
        same("a new object", new SpokenTree().speak(), NONE);
        SpokenTree x = three();
        x.speak();
        x.speak();
        same("the last", x.speak(), 3);
        x.clearText();
        bare(x);
        same("none", x.speak(), NONE);
        same("what was spoken stays", Check.spoken(x), "ccc");
        same("one record", records(x), 1);
        same("nothing else changes", Story.of(() -> {
            SpokenTree y = new SpokenTree();
            y.speak();
            y.undo();
            return y;
        }), Story.of(SpokenTree::new));
    }

    @Says(promise = 27, value = "Returns the number of characters that were spoken")
    static void speakReturnsTheLength() {
        SpokenTree x = full(TEXT);
        x.set(0, LIVE, 2);
        Check.text(x, 1, "!");
        same("one", x.speak(), 1);
        Check.text(x, 1, "12345678");
        same("eight", x.speak(), 8);
        for (int node = 2; node < 24; node++) {
            Check.text(x, node, "12345678");
        }
        x.silence();
        x.set(0, ATOMIC, 1);
        Check.text(x, 1, "a");
        same("199", x.speak(), 199);
    }

    @Says(promise = 27, value = "Speaks.")
    static void tenAndNoMore() {
        SpokenTree x = texts(3);
        announce(x, 1, 10);
        for (int n = 1; n <= 10; n++) {
            same("length", x.speak(), n < 10 ? 2 : 3);
            same("words", Check.spoken(x), "t" + n);
        }
        same("the eleventh", x.speak(), NONE);
    }

    @Says(promise = 27, value = "Undoable.")
    static void speakIsUndoable() {
        undoable(QueueBoundaries::three, SpokenTree::speak);
        undoable(Boundaries::busy, SpokenTree::speak);
        undoable(SpokenTree::new, SpokenTree::speak);
        undoable(() -> {
            SpokenTree x = texts(2);
            announce(x, 1, 10);
            return x;
        }, SpokenTree::speak);
    }

    // ---- 28, spoken

    @Says(promise = 28, value = "Returns its code; NONE if there is no such character.")
    static void noCharacterSpoken() {
        SpokenTree x = three();
        same("nothing was spoken", x.spoken(0), NONE);
        x.speak();
        same("one character", x.spoken(0), 'a');
        same("behind it", x.spoken(1), NONE);
        x.speak();
        same("the last of two", x.spoken(1), 'b');
        same("behind it", x.spoken(2), NONE);
        same("at the end of int", x.spoken(HIGHEST), NONE);
    }

    @Says(promise = 28, value = "Positions, places and indices may be negative where NONE is returned")
    static void negativeSpoken() {
        SpokenTree x = three();
        x.speak();
        for (int index : new int[] {-1, -2, LOWEST}) {
            same("index " + index, x.spoken(index), NONE);
        }
    }

    @Says(promise = 28, value = "`index`: its index")
    static void theLongestSpoken() {
        SpokenTree x = full(FIELD);
        for (int node = 1; node < 24; node++) {
            Check.text(x, node, "1234567" + (char) (64 + node));
        }
        x.setLabelledBy(23, 0);
        x.focusOn(23);
        String due = Check.words(x, 23, 3);
        same("length", x.speak(), 220);
        for (int index = 0; index < 220; index++) {
            same("index " + index, x.spoken(index), due.charAt(index));
        }
        same("behind it", x.spoken(220), NONE);
    }

    @Says(promise = 28, value = "Returns a character of what was spoken last.")
    static void alsoWhatWasRead() {
        SpokenTree x = tree(0, TABLE, 1, ROW, 2, CELL);
        Check.label(x, 3, "cell");
        x.read(3);
        same("first", x.spoken(0), 'c');
        same("last", x.spoken(3), 'l');
        x.remove(1);
        same("stays", Check.spoken(x), "cell");
    }

    // ---- 29, silence

    @Says(promise = 29, value = "Returns how many there were.")
    static void silenceFromNoneToTen() {
        for (int n = 0; n <= 12; n++) {
            SpokenTree x = texts(2);
            announce(x, 1, n);
            same("of " + n, x.silence(), Math.min(n, 10));
            same("once more", x.silence(), 0);
        }
    }

    @Says(promise = 29, value = "Removes all announcements from the queue.")
    static void allRanksGo() {
        SpokenTree x = three();
        x.focusOn(4);
        x.speak();
        x.focusOn(4);
        same("of all ranks", x.silence(), 4);
        same("none is left", x.pending(), 0);
        same("what was spoken stays", Check.spoken(x), "button");
        same("nor anything to speak", x.speak(), NONE);
        x.focusOn(4);
        same("from the start again", Check.queue(x), "0 4 -1 button");
    }

    @Says(promise = 29, value = "Undoable.")
    static void silenceIsUndoable() {
        undoable(QueueBoundaries::three, SpokenTree::silence);
        undoable(SpokenTree::new, SpokenTree::silence);
        undoable(() -> {
            SpokenTree x = texts(3);
            announce(x, 1, 10);
            return x;
        }, SpokenTree::silence);
    }
}
