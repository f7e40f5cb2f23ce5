import java.util.function.LongSupplier;

/** Long runs of calls, made up by fixed numbers, whose answers must be those of the Model. */
public final class ModelTest {
    private static final int RUNS = 600;
    private static final int CALLS = 512;

    private static long seed;
    private static SpokenTree x;
    private static Model m;
    private static String call;
    private static long answer;
    private static long due;
    private static final int[] thrown = new int[4];

    private ModelTest() {
    }

    public static void main(String[] args) {
        for (int run = 0; run < RUNS; run++) {
            seed = 7919L * run + 17;
            x = new SpokenTree();
            m = new Model();
            if (!holds(run)) {
                break;
            }
        }
        // A run that never throws, or always does, would compare nothing.
        Check.yes("the runs throw each exception and answer too",
                thrown[0] > 100000 && thrown[1] > 1000 && thrown[2] > 1000 && thrown[3] > 1000);
        Check.end("ModelTest");
    }

    private static boolean holds(int run) {
        StringBuilder story = new StringBuilder();
        for (int n = 0; n < CALLS; n++) {
            oneCall(run % 6);
            story.append(call).append(" = ").append(answer).append('\n');
            long sum = x.checksum();
            long dueSum = m.checksum();
            if (answer != due || sum != dueSum) {
                System.out.println(story);
            }
            Check.same("run " + run + ", call " + n + ": " + call, answer, due);
            Check.same("run " + run + ", call " + n + ": checksum() after " + call, sum, dueSum);
            if (answer != due || sum != dueSum) {
                return false;
            }
        }
        return true;
    }

    private static int below(int bound) {
        seed = seed * 6364136223846793005L + 1442695040888963407L;
        return (int) Math.floorMod(seed >> 33, (long) bound);
    }

    private static int node() {
        if (below(30) == 0) {
            return below(28) - 2;
        }
        int count = Integer.bitCount(m.nodes());
        int wanted = below(count);
        for (int number = 0; number < 24; number++) {
            if ((m.nodes() >> number & 1) == 1 && wanted-- == 0) {
                return number;
            }
        }
        return 0;
    }

    private static int nodeWith(int role) {
        for (int attempt = 0; attempt < 12; attempt++) {
            int number = node();
            if (m.nodes() >> number >= 1 && number >= 0 && number < 24 && (m.nodes() >> number & 1) == 1
                    && m.info(number, 0) == role) {
                return number;
            }
        }
        return node();
    }

    private static int position(int parent) {
        if (parent < 0 || parent > 23 || (m.nodes() >> parent & 1) == 0) {
            return below(4) - 1;
        }
        return below(15) == 0 ? below(28) - 2 : below(m.info(parent, 3) + 1);
    }

    private static int role(int style) {
        if (below(40) == 0) {
            return below(15) - 2;
        }
        int[][] favourites = {{0, 1, 2, 3, 4, 5, 6, 7, 8, 9, 10}, {2, 3, 5, 6, 6, 0}, {1, 1, 4, 0, 2, 6},
            {7, 8, 8, 9, 9, 10, 10}, {1, 2, 3, 4, 5, 6, 9, 10}, {0, 1, 1, 4}};
        int[] row = favourites[style];
        return row[below(row.length)];
    }

    // Tables come about only if rows are put into them and cells into rows.
    private static int parentFor(int role) {
        if (below(4) == 0) {
            return node();
        }
        return role == 8 ? nodeWith(7) : role >= 9 ? nodeWith(8) : node();
    }

    private static int value(int what) {
        if (below(25) == 0) {
            return below(14) - 3;
        }
        return what == 2 ? below(11) - 1 : what == 3 ? below(4) : below(2);
    }

    private static int pick(int kinds) {
        return below(30) == 0 ? below(kinds + 4) - 2 : below(kinds);
    }

    private static long told(LongSupplier work) {
        try {
            long answered = work.getAsLong();
            thrown[0]++;
            return answered;
        } catch (IndexOutOfBoundsException e) {
            thrown[1]++;
            return e.getClass() == IndexOutOfBoundsException.class ? -1001 : -2000;
        } catch (IllegalArgumentException e) {
            thrown[2]++;
            return -1002;
        } catch (IllegalStateException e) {
            thrown[3]++;
            return -1003;
        } catch (RuntimeException e) {
            return -2001;
        }
    }

    private static void both(String name, LongSupplier program, LongSupplier model) {
        call = name;
        due = told(model);
        answer = told(program);
    }

    private static void oneCall(int style) {
        int kind = below(100);
        if (kind < 14) {
            build(style);
        } else if (kind < 30) {
            dress(style);
        } else if (kind < 48) {
            write(style);
        } else if (kind < 66) {
            focus();
        } else if (kind < 78) {
            hear();
        } else if (kind < 90) {
            table();
        } else {
            ask();
        }
    }

    private static void build(int style) {
        int a = node();
        int kind = below(12);
        if (kind == 0) {
            both("remove(" + a + ")", () -> x.remove(a), () -> m.remove(a));
        } else if (kind < 3) {
            int b = node();
            int place = position(b);
            both("move(" + a + ", " + b + ", " + place + ")", () -> x.move(a, b, place), () -> m.move(a, b, place));
        } else {
            int role = role(style);
            int b = parentFor(role);
            int place = position(b);
            both("create(" + b + ", " + place + ", " + role + ")", () -> x.create(b, place, role),
                    () -> m.create(b, place, role));
        }
    }

    private static void dress(int style) {
        int a = node();
        if (below(5) == 0) {
            int by = below(4) == 0 ? -1 : node();
            both("setLabelledBy(" + a + ", " + by + ")", () -> x.setLabelledBy(a, by), () -> m.setLabelledBy(a, by));
            return;
        }
        int what = style == 2 && below(2) == 0 ? 3 : style == 5 ? below(2) * 3 : pick(5);
        int value = value(what);
        both("set(" + a + ", " + what + ", " + value + ")", () -> x.set(a, what, value), () -> m.set(a, what, value));
    }

    private static void write(int style) {
        int kind = below(12);
        int a = below(3) == 0 ? node() : nodeWith(style == 3 ? 9 : below(2) == 0 ? 1 : 4);
        if (kind < 5) {
            int c = below(20) == 0 ? below(140) - 5 : 33 + below(94);
            both("type(" + c + ")", () -> x.type(c), () -> m.type(c));
        } else if (kind < 6) {
            both("clearText()", () -> x.clearText(), () -> m.clearText());
        } else if (kind < 9) {
            both("setText(" + a + ")", () -> x.setText(a), () -> m.setText(a));
        } else {
            both("setLabel(" + a + ")", () -> x.setLabel(a), () -> m.setLabel(a));
        }
    }

    private static void focus() {
        int a = node();
        int dialog = nodeWith(6);
        boolean flag = below(2) == 0;
        switch (below(8)) {
            case 0 -> both("focusOn(" + a + ")", () -> x.focusOn(a), () -> m.focusOn(a));
            case 1, 2 -> both("step(" + flag + ")", () -> x.step(flag), () -> m.step(flag));
            case 3, 4 -> both("open(" + dialog + ")", () -> x.open(dialog), () -> m.open(dialog));
            case 5 -> both("close(" + dialog + ")", () -> x.close(dialog), () -> m.close(dialog));
            case 6 -> both("canFocus(" + a + ")", () -> x.canFocus(a) ? 1 : 0, () -> m.canFocus(a) ? 1 : 0);
            default -> {
                int place = below(12) - 1;
                both("focusOrder(" + place + ")", () -> x.focusOrder(place), () -> m.focusOrder(place));
            }
        }
    }

    private static void hear() {
        int a = node();
        int k = below(14) - 2;
        int index = below(20) - 1;
        int what = pick(4);
        switch (below(10)) {
            case 0 -> both("region(" + a + ")", () -> x.region(a), () -> m.region(a));
            case 1 -> both("announcement(" + k + ", " + what + ")", () -> x.announcement(k, what),
                    () -> m.announcement(k, what));
            case 2 -> both("announced(" + k + ", " + index + ")", () -> x.announced(k, index),
                    () -> m.announced(k, index));
            case 3 -> both("speak()", () -> x.speak(), () -> m.speak());
            case 4 -> both("spoken(" + index + ")", () -> x.spoken(index), () -> m.spoken(index));
            case 5 -> {
                if (below(6) == 0) {
                    both("silence()", () -> x.silence(), () -> m.silence());
                } else {
                    both("pending()", () -> x.pending(), () -> m.pending());
                }
            }
            case 6, 7 -> {
                if (below(2) == 0) {
                    both("undo()", () -> x.undo(), () -> m.undo());
                } else {
                    both("trap()", () -> x.trap(), () -> m.trap());
                }
            }
            default -> both("set(" + a + ", 0, 0)", () -> x.set(a, 0, 0), () -> m.set(a, 0, 0));
        }
    }

    private static void table() {
        int a = below(3) == 0 ? node() : nodeWith(9 + below(2));
        boolean column = below(2) == 0;
        switch (below(8)) {
            case 0 -> both("cellPlace(" + a + ", " + column + ")", () -> x.cellPlace(a, column),
                    () -> m.cellPlace(a, column));
            case 1 -> {
                int t = nodeWith(7);
                int row = below(7) - 1;
                int place = below(6) - 1;
                both("cellAt(" + t + ", " + row + ", " + place + ")", () -> x.cellAt(t, row, place),
                        () -> m.cellAt(t, row, place));
            }
            case 2 -> both("header(" + a + ", " + column + ")", () -> x.header(a, column), () -> m.header(a, column));
            case 3, 4, 5 -> both("read(" + a + ")", () -> x.read(a), () -> m.read(a));
            default -> {
                int direction = pick(4);
                both("readBeside(" + direction + ")", () -> x.readBeside(direction), () -> m.readBeside(direction));
            }
        }
    }

    private static void ask() {
        int a = node();
        int kind = pick(6);
        int index = below(26) - 1;
        int what = pick(15);
        switch (below(7)) {
            case 0 -> both("info(" + a + ", " + what + ")", () -> x.info(a, what), () -> m.info(a, what));
            case 1 -> both("child(" + a + ", " + index + ")", () -> x.child(a, index), () -> m.child(a, index));
            case 2 -> both("character(" + a + ", " + kind + ", " + index + ")", () -> x.character(a, kind, index),
                    () -> m.character(a, kind, index));
            case 3 -> both("length(" + a + ", " + kind + ")", () -> x.length(a, kind), () -> m.length(a, kind));
            case 4 -> both("inOrder(" + index + ")", () -> x.inOrder(index), () -> m.inOrder(index));
            case 5 -> both("focus()", () -> x.focus(), () -> m.focus());
            default -> both("nodes()", () -> x.nodes(), () -> m.nodes());
        }
    }
}
