/** What the tests share: they count what is wrong, print it, and end with 1 if there was any. */
final class Check {
    private static int wrong = 0;
    private static int done = 0;
    private static String about = "";

    private Check() {
    }

    /** What is to stand before all that is told as wrong from here on. */
    static void about(String test) {
        about = test;
    }

    static int wrong() {
        return wrong;
    }

    static void same(String what, long got, long due) {
        done++;
        if (got != due) {
            wrong++;
            System.out.println("WRONG " + about + what + ": answered " + got + ", due is " + due);
        }
    }

    static void same(String what, String got, String due) {
        done++;
        if (!got.equals(due)) {
            wrong++;
            System.out.println("WRONG " + about + what + ": answered \"" + got + "\", due is \"" + due + "\"");
        }
    }

    static void yes(String what, boolean got) {
        same(what, got ? 1 : 0, 1);
    }

    static void no(String what, boolean got) {
        same(what, got ? 1 : 0, 0);
    }

    /** The call must throw just this exception, and leave all that the face shows as it was. */
    static void refused(String what, SpokenTree x, Class<? extends RuntimeException> due, Runnable call) {
        String before = shown(x);
        String got = "nothing";
        try {
            call.run();
        } catch (RuntimeException e) {
            got = e.getClass().getSimpleName();
        }
        same(what + " throws", got, due.getSimpleName());
        same(what + " changes nothing", shown(x), before);
    }

    /** All that can be asked without changing anything, as a text. */
    static String shown(SpokenTree x) {
        StringBuilder all = new StringBuilder();
        for (int node = 0; node < 24; node++) {
            if ((x.nodes() >> node & 1) == 0) {
                continue;
            }
            all.append('[').append(node);
            for (int what = 0; what <= 14; what++) {
                all.append(' ').append(x.info(node, what));
            }
            for (int what = 0; what <= 5; what++) {
                all.append(" <").append(words(x, node, what)).append('>');
            }
            all.append(x.region(node)).append(x.header(node, true)).append(x.header(node, false)).append(']');
        }
        all.append(x.focus()).append(' ').append(x.trap()).append(' ').append(queue(x));
        return all.append(spoken(x)).append(x.checksum()).toString();
    }

    /** The words of a node, read sign by sign; they must be as long as length() says. */
    static String words(SpokenTree x, int node, int what) {
        StringBuilder all = new StringBuilder();
        for (int index = 0; x.character(node, what, index) != -1; index++) {
            all.append((char) x.character(node, what, index));
        }
        if (all.length() != x.length(node, what)) {
            same("length(" + node + ", " + what + ")", x.length(node, what), all.length());
        }
        return all.toString();
    }

    static String spoken(SpokenTree x) {
        StringBuilder all = new StringBuilder();
        for (int index = 0; x.spoken(index) != -1; index++) {
            all.append((char) x.spoken(index));
        }
        return all.toString();
    }

    static String announced(SpokenTree x, int k) {
        StringBuilder all = new StringBuilder();
        for (int index = 0; x.announced(k, index) != -1; index++) {
            all.append((char) x.announced(k, index));
        }
        return all.toString();
    }

    /** The queue as "rank target region words" with a stroke between two announcements. */
    static String queue(SpokenTree x) {
        StringBuilder all = new StringBuilder();
        for (int k = 0; k < x.pending(); k++) {
            all.append(k == 0 ? "" : "|");
            for (int what = 0; what < 3; what++) {
                all.append(x.announcement(k, what)).append(' ');
            }
            all.append(announced(x, k));
        }
        return all.toString();
    }

    static String focusOrder(SpokenTree x) {
        StringBuilder all = new StringBuilder();
        for (int place = 0; x.focusOrder(place) != -1; place++) {
            all.append(place == 0 ? "" : " ").append(x.focusOrder(place));
        }
        return all.toString();
    }

    static String documentOrder(SpokenTree x) {
        StringBuilder all = new StringBuilder();
        for (int place = 0; x.inOrder(place) != -1; place++) {
            all.append(place == 0 ? "" : " ").append(x.inOrder(place));
        }
        return all.toString();
    }

    static void fill(SpokenTree x, String words) {
        x.clearText();
        for (int index = 0; index < words.length(); index++) {
            x.type(words.charAt(index));
        }
    }

    static void text(SpokenTree x, int node, String words) {
        fill(x, words);
        x.setText(node);
    }

    static void label(SpokenTree x, int node, String words) {
        fill(x, words);
        x.setLabel(node);
    }

    /** Makes a node behind the children that the parent has. */
    static int add(SpokenTree x, int parent, int role) {
        return x.create(parent, x.info(parent, 3), role);
    }

    static void end(String test) {
        System.out.println(test + ": " + done + " answers looked at, " + wrong + " not as due");
        if (wrong != 0) {
            System.exit(1);
        }
    }
}
