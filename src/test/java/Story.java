import java.util.function.Supplier;

/**
 * All that the answers of an object can tell of its state, also what shows only by calls that change it:
 * the records, the signs of the buffer, the cell read last, what is remembered as the focus or by a dialog,
 * and the order in which the dialogs were opened. The object is made anew for each question.
 */
final class Story {
    private Story() {
    }

    static String of(Supplier<SpokenTree> maker) {
        StringBuilder all = new StringBuilder(Check.shown(maker.get()));
        tellRecords(maker.get(), all.append("\nrecords"));
        tellReadLast(maker.get(), all.append("\nread last"));
        all.append("\nfocus ").append(rememberedFocus(maker.get()));
        tellOpenings(maker.get(), all.append("\nopened"));
        for (int node = 0; node < 24; node++) {
            if (isOpen(maker.get(), node)) {
                all.append("\ndialog ").append(node).append(' ').append(rememberedBy(maker.get(), node));
            }
        }
        return all.toString();
    }

    static boolean has(SpokenTree x, int node) {
        return (x.nodes() >> node & 1) == 1;
    }

    static boolean isOpen(SpokenTree x, int node) {
        return has(x, node) && x.info(node, 12) == 1;
    }

    private static void tellRecords(SpokenTree x, StringBuilder all) {
        x.setLabel(0);
        all.append(Check.words(x, 0, 1));
        x = undone(x);
        while (x != null) {
            all.append('\n').append(Check.shown(x));
            x = undone(x);
        }
    }

    private static SpokenTree undone(SpokenTree x) {
        try {
            x.undo();
            return x;
        } catch (IllegalStateException e) {
            return null;
        }
    }

    private static void tellReadLast(SpokenTree x, StringBuilder all) {
        for (int direction = 0; direction < 4; direction++) {
            try {
                all.append(' ').append(x.readBeside(direction)).append(' ').append(Check.spoken(x));
                x.undo();
            } catch (IllegalStateException e) {
                all.append(" none");
            }
        }
    }

    private static int rememberedFocus(SpokenTree x) {
        layBare(x);
        for (int node = 1; node < 24; node++) {
            if (has(x, node) && x.info(node, 0) == 6) {
                x.remove(node);
            }
        }
        return x.focus();
    }

    private static void tellOpenings(SpokenTree x, StringBuilder all) {
        layBare(x);
        for (int n = 0; n < 24 && x.trap() != -1; n++) {
            all.append(' ').append(x.trap());
            x.close(x.trap());
        }
    }

    private static String rememberedBy(SpokenTree x, int dialog) {
        layBare(x);
        for (int node = 1; node < 24; node++) {
            if (node != dialog && isOpen(x, node)) {
                x.close(node);
            }
        }
        x.silence();
        x.close(dialog);
        return Check.queue(x);
    }

    // Then all that may have the focus by its role can have it, but for an open dialog, which holds nothing.
    private static void layBare(SpokenTree x) {
        for (int node = 1; node < 24; node++) {
            if (!has(x, node)) {
                continue;
            }
            for (int what = 0; what < 3; what++) {
                x.set(node, what, 0);
            }
            int role = x.info(node, 0);
            if (role == 2 || role == 3 || role == 5 || role == 6) {
                x.move(node, 0, 0);
            }
        }
    }
}
