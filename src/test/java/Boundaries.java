import java.util.function.Supplier;

/** What the tests of boundary cases share. */
abstract class Boundaries {
    static final Class<IndexOutOfBoundsException> OUTSIDE = IndexOutOfBoundsException.class;
    static final Class<IllegalArgumentException> ARGUMENT = IllegalArgumentException.class;
    static final Class<IllegalStateException> STATE = IllegalStateException.class;
    static final int NONE = -1;
    static final int LOWEST = Integer.MIN_VALUE;
    static final int HIGHEST = Integer.MAX_VALUE;

    static final int GROUP = 0;
    static final int TEXT = 1;
    static final int BUTTON = 2;
    static final int LINK = 3;
    static final int IMAGE = 4;
    static final int FIELD = 5;
    static final int DIALOG = 6;
    static final int TABLE = 7;
    static final int ROW = 8;
    static final int CELL = 9;
    static final int HEADER = 10;

    static final int HIDDEN = 0;
    static final int DISABLED = 1;
    static final int TAB_NUMBER = 2;
    static final int LIVE = 3;
    static final int ATOMIC = 4;

    interface Call {
        long on(SpokenTree x);
    }

    interface NumberCall {
        long on(SpokenTree x, int number);
    }

    static void same(String what, long got, long due) {
        Check.same(what, got, due);
    }

    static void same(String what, String got, String due) {
        Check.same(what, got, due);
    }

    static void yes(String what, boolean got) {
        Check.yes(what, got);
    }

    static void no(String what, boolean got) {
        Check.no(what, got);
    }

    /** A tree of nodes 1, 2, 3 and so on, told by the parent and the role of each; it has no records. */
    static SpokenTree tree(int... parentsAndRoles) {
        SpokenTree x = new SpokenTree();
        for (int n = 0; n < parentsAndRoles.length; n += 2) {
            Check.add(x, parentsAndRoles[n], parentsAndRoles[n + 1]);
        }
        return bare(x);
    }

    /** The root with 23 children of that role. */
    static SpokenTree full(int role) {
        SpokenTree x = new SpokenTree();
        for (int n = 1; n < 24; n++) {
            Check.add(x, 0, role);
        }
        return bare(x);
    }

    /** Each node is the only child of the one before, down to node 23, which has the role. */
    static SpokenTree chain(int role) {
        SpokenTree x = new SpokenTree();
        for (int n = 0; n < 23; n++) {
            x.create(n, 0, n == 22 ? role : GROUP);
        }
        return bare(x);
    }

    /** The same without its records. */
    static SpokenTree bare(SpokenTree x) {
        for (int n = 0; n < 5; n++) {
            x.set(0, DISABLED, x.info(0, 8));
        }
        for (int n = 0; n < 5; n++) {
            x.undo();
        }
        return x;
    }

    /** How many records there are; they are gone then. */
    static int records(SpokenTree x) {
        int count = 0;
        while (told(x, SpokenTree::undo).equals("nothing")) {
            count++;
        }
        return count;
    }

    /** The name of what the call throws, or "nothing". */
    static String told(SpokenTree x, Call call) {
        try {
            call.on(x);
            return "nothing";
        } catch (RuntimeException e) {
            return e.getClass().getSimpleName();
        }
    }

    private static SpokenTree after(SpokenTree x, Call call) {
        told(x, call);
        return x;
    }

    /** The call must throw just this exception, and leave all as it is without the call. */
    static void refused(Class<? extends RuntimeException> due, Supplier<SpokenTree> maker, Call call) {
        refused("the call", due, maker, call);
    }

    /** The call must be refused with each of the numbers. */
    static void refused(Class<? extends RuntimeException> due, Supplier<SpokenTree> maker, NumberCall call,
            int... numbers) {
        for (int number : numbers) {
            refused("the call with " + number, due, maker, x -> call.on(x, number));
        }
    }

    private static void refused(String name, Class<? extends RuntimeException> due, Supplier<SpokenTree> maker,
            Call call) {
        same(name + " throws", told(maker.get(), call), due.getSimpleName());
        same(name + " changes nothing", Story.of(() -> after(maker.get(), call)), Story.of(maker));
    }

    /** A tree that has something of everything, and two records. */
    static SpokenTree busy() {
        SpokenTree x = tree(0, BUTTON, 0, DIALOG, 2, FIELD, 0, TEXT, 0, TABLE, 5, ROW, 6, HEADER, 6, CELL, 0, DIALOG,
                9, LINK);
        x.set(0, LIVE, 2);
        x.focusOn(1);
        x.open(9);
        x.open(2);
        Check.label(x, 8, "cell");
        x.read(8);
        Check.text(x, 4, "text");
        bare(x);
        x.setLabelledBy(1, 4);
        x.set(1, TAB_NUMBER, 3);
        Check.fill(x, "xyz");
        return x;
    }

    /** Numbers that are no node's are refused; the lowest and the highest node are not. */
    static void noSuchNode(NumberCall call) {
        Supplier<SpokenTree> gaps = () -> {
            SpokenTree x = busy();
            x.create(0, 0, GROUP);
            x.remove(4);
            return x;
        };
        refused(OUTSIDE, gaps, call, -1, -2, 4, 12, 23, 24, 25, LOWEST, HIGHEST);
        for (int node : new int[] {0, 1, 22, 23}) {
            String thrown = told(full(GROUP), x -> call.on(x, node));
            no("node " + node + " of 24 is outside", thrown.equals("IndexOutOfBoundsException"));
        }
    }

    /** The call makes one record, and undo() takes back all that it did. */
    static void undoable(Supplier<SpokenTree> maker, Call call) {
        same("throws", told(maker.get(), call), "nothing");
        same("records before", records(bare(maker.get())), 0);
        same("records", records(after(bare(maker.get()), call)), 1);
        same("undone", Story.of(() -> after(after(bare(maker.get()), call), SpokenTree::undo)),
                Story.of(() -> bare(maker.get())));
    }
}
