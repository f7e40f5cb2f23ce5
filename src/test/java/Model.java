import java.util.ArrayDeque;
import java.util.ArrayList;
import java.util.Deque;
import java.util.List;
import java.util.TreeMap;

/** A second reading of the document, with texts, lists and maps, for ModelTest to compare with. */
final class Model {
    private static final String[] ROLE_WORDS =
            {"", "", "button", "link", "image", "edit", "dialog", "table", "", "", "header"};

    private static final class Node {
        int number;
        int role;
        Node parent;
        List<Node> kids = new ArrayList<>();
        String text = "";
        String label = "";
        int labelledBy = -1;
        int[] settings = new int[5];
        int remembers = -1;
    }

    private record Said(int rank, int target, int region, String words) {
    }

    private static final class State {
        TreeMap<Integer, Node> nodes = new TreeMap<>();
        List<Integer> opened = new ArrayList<>();
        List<Said> queue = new ArrayList<>();
        String spoken = "";
        int focus = -1;
        int lastRead = -1;
    }

    private State s = new State();
    private final Deque<State> records = new ArrayDeque<>();
    private String buffer = "";

    Model() {
        Node root = new Node();
        s.nodes.put(0, root);
    }

    private static Node copyOf(Node from, Node parent, State into) {
        Node to = new Node();
        to.number = from.number;
        to.role = from.role;
        to.parent = parent;
        to.text = from.text;
        to.label = from.label;
        to.labelledBy = from.labelledBy;
        to.settings = from.settings.clone();
        to.remembers = from.remembers;
        for (Node kid : from.kids) {
            to.kids.add(copyOf(kid, to, into));
        }
        into.nodes.put(to.number, to);
        return to;
    }

    private void record() {
        State copy = new State();
        copyOf(s.nodes.get(0), null, copy);
        copy.opened.addAll(s.opened);
        copy.queue.addAll(s.queue);
        copy.spoken = s.spoken;
        copy.focus = s.focus;
        copy.lastRead = s.lastRead;
        records.addLast(copy);
        if (records.size() > 5) {
            records.removeFirst();
        }
    }

    private Node node(int number) {
        Node node = s.nodes.get(number);
        if (node == null) {
            throw new IndexOutOfBoundsException();
        }
        return node;
    }

    private static void demand(boolean holds) {
        if (!holds) {
            throw new IllegalArgumentException();
        }
    }

    private static void allow(boolean holds) {
        if (!holds) {
            throw new IllegalStateException();
        }
    }

    private static boolean within(Node node, Node top) {
        return node != null && (node == top || within(node.parent, top));
    }

    private static boolean below(Node node, Node top) {
        return node != top && within(node, top);
    }

    private void walk(Node node, List<Node> into) {
        into.add(node);
        for (Node kid : node.kids) {
            walk(kid, into);
        }
    }

    private List<Node> document() {
        List<Node> all = new ArrayList<>();
        walk(s.nodes.get(0), all);
        return all;
    }

    private boolean out(Node node) {
        return node.settings[0] == 1 || (node.role == 6 && !s.opened.contains(node.number));
    }

    private boolean shown(Node node) {
        return node == null || (!out(node) && shown(node.parent));
    }

    private static String joined(String... words) {
        List<String> all = new ArrayList<>();
        for (String word : words) {
            if (!word.isEmpty()) {
                all.add(word);
            }
        }
        return String.join(" ", all);
    }

    private String content(Node node) {
        if (node.role == 1 || node.role == 5) {
            return node.text;
        }
        if (node.role == 4) {
            return "";
        }
        return joined(node.kids.stream().filter(kid -> !out(kid)).map(this::part).toArray(String[]::new));
    }

    private String part(Node node) {
        return node.label.isEmpty() ? content(node) : node.label;
    }

    private String name(Node node) {
        if (node.labelledBy != -1) {
            return content(s.nodes.get(node.labelledBy));
        }
        if (!node.label.isEmpty()) {
            return node.label;
        }
        return List.of(1, 2, 3, 9, 10).contains(node.role) ? content(node) : "";
    }

    private String phrase(Node node) {
        return joined(name(node), ROLE_WORDS[node.role], node.role == 5 ? node.text : "",
                node.settings[1] == 1 ? "disabled" : "");
    }

    private String words(Node node, int what) {
        return switch (what) {
            case 0 -> node.text;
            case 1 -> node.label;
            case 2 -> name(node);
            case 3 -> phrase(node);
            case 4 -> content(node);
            default -> part(node);
        };
    }

    private static int sign(String words, int index) {
        return index >= 0 && index < words.length() ? words.charAt(index) : -1;
    }

    int create(int parent, int position, int role) {
        Node above = node(parent);
        if (position < 0 || position > above.kids.size()) {
            throw new IndexOutOfBoundsException();
        }
        demand(role >= 0 && role <= 10);
        allow(s.nodes.size() < 24);
        record();
        Node made = new Node();
        while (s.nodes.containsKey(made.number)) {
            made.number++;
        }
        made.role = role;
        made.parent = above;
        above.kids.add(position, made);
        s.nodes.put(made.number, made);
        return made.number;
    }

    int remove(int number) {
        Node top = node(number);
        allow(number != 0);
        record();
        List<Node> goneNodes = new ArrayList<>();
        walk(top, goneNodes);
        top.parent.kids.remove(top);
        for (Node lost : goneNodes) {
            int gone = lost.number;
            s.nodes.remove(gone);
            s.opened.remove((Integer) gone);
            s.queue.removeIf(said -> said.target == gone || said.region == gone);
            s.focus = s.focus == gone ? -1 : s.focus;
            s.lastRead = s.lastRead == gone ? -1 : s.lastRead;
            for (Node node : s.nodes.values()) {
                node.labelledBy = node.labelledBy == gone ? -1 : node.labelledBy;
                node.remembers = node.remembers == gone ? -1 : node.remembers;
            }
        }
        return goneNodes.size();
    }

    int move(int number, int parent, int position) {
        Node node = node(number);
        Node above = node(parent);
        allow(number != 0 && !within(above, node));
        List<Node> others = new ArrayList<>(above.kids);
        others.remove(node);
        demand(position >= 0 && position <= others.size());
        record();
        Node before = node.parent;
        before.kids.remove(node);
        above.kids.add(position, node);
        node.parent = above;
        return before.number;
    }

    int nodes() {
        int mask = 0;
        for (int number : s.nodes.keySet()) {
            mask += 1 << number;
        }
        return mask;
    }

    int info(int number, int what) {
        Node node = node(number);
        demand(what >= 0 && what <= 14);
        if (what >= 7 && what <= 11) {
            return node.settings[what - 7];
        }
        return switch (what) {
            case 0 -> node.role;
            case 1 -> node.parent == null ? -1 : node.parent.number;
            case 2 -> node.parent == null ? 0 : node.parent.kids.indexOf(node);
            case 3 -> node.kids.size();
            case 4 -> node.text.length();
            case 5 -> node.label.length();
            case 6 -> node.labelledBy;
            case 12 -> s.opened.contains(number) ? 1 : 0;
            case 13 -> out(node) ? 1 : 0;
            default -> shown(node) ? 1 : 0;
        };
    }

    int child(int number, int position) {
        List<Node> kids = node(number).kids;
        return position >= 0 && position < kids.size() ? kids.get(position).number : -1;
    }

    int set(int number, int what, int value) {
        Node node = node(number);
        demand(what >= 0 && what <= 4);
        int[] highest = {1, 1, 9, 3, 1};
        demand(value >= (what == 2 ? -1 : 0) && value <= highest[what]);
        allow(number != 0 || what != 0);
        record();
        int before = node.settings[what];
        node.settings[what] = value;
        if (what == 0 && before == 1 && value == 0) {
            change(node);
        }
        return before;
    }

    int setText(int number) {
        Node node = node(number);
        allow(node.role == 1 || node.role == 5);
        record();
        String before = node.text;
        node.text = buffer;
        if (node.role == 1 && !before.equals(buffer)) {
            change(node);
        }
        return buffer.length();
    }

    int setLabel(int number) {
        Node node = node(number);
        record();
        String before = node.label;
        node.label = buffer;
        if (node.role == 4 && !before.equals(buffer)) {
            change(node);
        }
        return buffer.length();
    }

    int setLabelledBy(int number, int by) {
        Node node = node(number);
        if (by != -1) {
            node(by);
        }
        demand(number != by);
        record();
        int before = node.labelledBy;
        node.labelledBy = by;
        return before;
    }

    int character(int number, int what, int index) {
        Node node = node(number);
        demand(what >= 0 && what <= 5);
        return sign(words(node, what), index);
    }

    int length(int number, int what) {
        Node node = node(number);
        demand(what >= 0 && what <= 5);
        return words(node, what).length();
    }

    int inOrder(int place) {
        List<Node> all = document();
        return place >= 0 && place < all.size() ? all.get(place).number : -1;
    }

    private Node trapNode() {
        for (int k = s.opened.size() - 1; k >= 0; k--) {
            Node dialog = s.nodes.get(s.opened.get(k));
            if (shown(dialog)) {
                return dialog;
            }
        }
        return null;
    }

    private boolean able(Node node) {
        return (node.role == 2 || node.role == 3 || node.role == 5) && shown(node) && node.settings[1] == 0
                && node.settings[2] != -1 && (trapNode() == null || below(node, trapNode()));
    }

    private List<Integer> order() {
        List<Node> all = document();
        all.removeIf(node -> !able(node));
        // The sort is stable, so equal tab numbers stay in document order.
        all.sort((a, b) -> Integer.compare(a.settings[2] == 0 ? 99 : a.settings[2],
                b.settings[2] == 0 ? 99 : b.settings[2]));
        List<Integer> numbers = new ArrayList<>();
        for (Node node : all) {
            numbers.add(node.number);
        }
        return numbers;
    }

    private void giveFocus(int number) {
        s.focus = number;
        announce(new Said(0, number, -1, phrase(s.nodes.get(number))));
    }

    private void change(Node node) {
        Node region = regionNode(node);
        if (!shown(node) || region == null) {
            return;
        }
        Node target = region.settings[4] == 1 ? region : node;
        if (!part(target).isEmpty()) {
            announce(new Said(region.settings[3] == 3 ? 1 : 2, target.number, region.number, part(target)));
        }
    }

    private void announce(Said said) {
        if (said.rank == 0) {
            s.queue.removeIf(other -> other.rank == 0);
        } else {
            s.queue.removeIf(other -> other.rank > 0 && other.target == said.target);
        }
        if (said.rank == 1) {
            s.queue.removeIf(other -> other.rank == 2 && other.region == said.region);
        }
        if (said.words.isEmpty()) {
            return;
        }
        if (s.queue.size() == 10) {
            int worst = s.queue.stream().mapToInt(Said::rank).max().getAsInt();
            s.queue.remove(s.queue.stream().filter(other -> other.rank == worst).findFirst().get());
        }
        s.queue.add(said);
    }

    private Node regionNode(Node node) {
        if (node == null) {
            return null;
        }
        if (node.settings[3] == 0) {
            return regionNode(node.parent);
        }
        return node.settings[3] == 1 ? null : node;
    }

    boolean canFocus(int number) {
        return able(node(number));
    }

    int focusOrder(int place) {
        List<Integer> all = order();
        return place >= 0 && place < all.size() ? all.get(place) : -1;
    }

    int focus() {
        return s.focus != -1 && able(s.nodes.get(s.focus)) ? s.focus : -1;
    }

    int focusOn(int number) {
        allow(able(node(number)));
        record();
        int before = focus();
        giveFocus(number);
        return before;
    }

    int step(boolean backwards) {
        record();
        List<Integer> all = order();
        if (all.isEmpty()) {
            return -1;
        }
        int at = all.indexOf(focus());
        int size = all.size();
        int next = at == -1 ? (backwards ? size - 1 : 0) : (at + (backwards ? size - 1 : 1)) % size;
        giveFocus(all.get(next));
        return all.get(next);
    }

    int open(int number) {
        Node dialog = node(number);
        demand(dialog.role == 6);
        allow(!s.opened.contains(number));
        record();
        dialog.remembers = focus();
        s.opened.add(number);
        List<Integer> all = order();
        if (!all.isEmpty() && below(s.nodes.get(all.get(0)), dialog)) {
            giveFocus(all.get(0));
        } else {
            s.focus = -1;
        }
        return focus();
    }

    int close(int number) {
        Node dialog = node(number);
        demand(dialog.role == 6);
        allow(s.opened.contains(number));
        record();
        s.opened.remove((Integer) number);
        if (dialog.remembers != -1 && able(s.nodes.get(dialog.remembers))) {
            giveFocus(dialog.remembers);
        }
        return focus();
    }

    int trap() {
        return trapNode() == null ? -1 : trapNode().number;
    }

    int region(int number) {
        Node region = regionNode(node(number));
        return region == null ? -1 : region.number;
    }

    int pending() {
        return s.queue.size();
    }

    int announcement(int k, int what) {
        demand(what >= 0 && what <= 3);
        if (k < 0 || k >= s.queue.size()) {
            return -1;
        }
        Said said = s.queue.get(k);
        return new int[] {said.rank, said.target, said.region, said.words.length()}[what];
    }

    int announced(int k, int index) {
        return k < 0 || k >= s.queue.size() ? -1 : sign(s.queue.get(k).words, index);
    }

    int speak() {
        record();
        if (s.queue.isEmpty()) {
            return -1;
        }
        int best = s.queue.stream().mapToInt(Said::rank).min().getAsInt();
        Said first = s.queue.stream().filter(said -> said.rank == best).findFirst().get();
        s.queue.remove(first);
        s.spoken = first.words;
        return s.spoken.length();
    }

    int spoken(int index) {
        return sign(s.spoken, index);
    }

    int silence() {
        record();
        int before = s.queue.size();
        s.queue.clear();
        return before;
    }

    private static List<Node> rows(Node table) {
        return table.kids.stream().filter(kid -> kid.role == 8).toList();
    }

    private static List<Node> cells(Node row) {
        return row.kids.stream().filter(kid -> kid.role == 9 || kid.role == 10).toList();
    }

    private static boolean isCell(Node node) {
        return node != null && node.parent != null && node.parent.parent != null && node.parent.parent.role == 7
                && node.parent.role == 8 && cells(node.parent).contains(node);
    }

    private static int row(Node cell) {
        return rows(cell.parent.parent).indexOf(cell.parent);
    }

    private static int column(Node cell) {
        return cells(cell.parent).indexOf(cell);
    }

    private static Node cell(Node table, int row, int column) {
        if (row < 0 || row >= rows(table).size() || column < 0) {
            return null;
        }
        List<Node> all = cells(rows(table).get(row));
        return column < all.size() ? all.get(column) : null;
    }

    private static Node headerNode(Node cell, boolean column) {
        if (!isCell(cell)) {
            return null;
        }
        Node found = null;
        if (column) {
            for (int row = 0; row < row(cell); row++) {
                Node other = cell(cell.parent.parent, row, column(cell));
                found = other != null && other.role == 10 ? other : found;
            }
        } else {
            for (Node other : cells(cell.parent).subList(0, column(cell))) {
                found = other.role == 10 ? other : found;
            }
        }
        return found;
    }

    int cellPlace(int number, boolean column) {
        Node node = node(number);
        if (!isCell(node)) {
            return -1;
        }
        return column ? column(node) : row(node);
    }

    int cellAt(int number, int row, int column) {
        Node table = node(number);
        Node cell = table.role == 7 ? cell(table, row, column) : null;
        return cell == null ? -1 : cell.number;
    }

    int header(int number, boolean column) {
        Node header = headerNode(node(number), column);
        return header == null ? -1 : header.number;
    }

    private void readCell(Node cell) {
        Node last = s.nodes.get(s.lastRead);
        Node left = headerNode(cell, false);
        Node top = headerNode(cell, true);
        s.spoken = joined(left == null || left == headerNode(last, false) ? "" : part(left),
                top == null || top == headerNode(last, true) ? "" : part(top), part(cell));
        s.lastRead = cell.number;
    }

    int read(int number) {
        Node cell = node(number);
        allow(isCell(cell));
        record();
        readCell(cell);
        return s.spoken.length();
    }

    int readBeside(int direction) {
        demand(direction >= 0 && direction <= 3);
        Node last = s.nodes.get(s.lastRead);
        allow(isCell(last));
        int row = row(last) + new int[] {0, 0, -1, 1}[direction];
        int column = column(last) + new int[] {-1, 1, 0, 0}[direction];
        Node cell = cell(last.parent.parent, row, column);
        allow(cell != null);
        record();
        readCell(cell);
        return cell.number;
    }

    int type(int c) {
        demand(c >= 33 && c <= 126);
        allow(buffer.length() < 8);
        buffer += (char) c;
        return buffer.length();
    }

    int clearText() {
        int before = buffer.length();
        buffer = "";
        return before;
    }

    int undo() {
        allow(!records.isEmpty());
        s = records.removeLast();
        return records.size();
    }

    private long h;

    private void mix(long v) {
        h = 31 * h + v;
    }

    private void mix(String words) {
        words.chars().forEach(this::mix);
    }

    long checksum() {
        h = 18379;
        mix(nodes());
        for (Node node : document()) {
            mix(node.number);
            for (int what = 0; what <= 14; what++) {
                mix(info(node.number, what));
            }
            mix(phrase(node));
        }
        mix(focus());
        mix(trap());
        order().forEach(this::mix);
        mix(s.queue.size());
        for (Said said : s.queue) {
            mix(said.rank);
            mix(said.target);
            mix(said.region);
            mix(said.words.length());
            mix(said.words);
        }
        mix(s.spoken);
        mix(buffer.length());
        mix(records.size());
        return h;
    }
}
