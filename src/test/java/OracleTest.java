import java.util.ArrayList;
import java.util.List;
import java.util.Random;

/**
 * Random documents and queries, made together with what they mean, so that nothing here reads a text: what the program
 * finds is looked at against the plainest following of the document's words.
 */
final class OracleTest {
    private static final int RUNS = 60000;
    private static final String[] NAMES = {"a", "b", "c", "", "a b", "'", "abcdefgh"};
    private static final String[] STRINGS = {"", "a", "ab", "b", " ", "B", "abcdefgh", "a'"};

    private final Random random;

    // Every other query goes wide, so that it finds many nodes, or too many.
    private final boolean wide;

    private OracleTest(long seed) {
        random = new Random(seed);
        wide = seed % 2 == 1;
    }

    public static void main(String[] args) {
        int found = 0;
        int tooMuch = 0;
        int compared = 0;
        for (int seed = 0; seed < RUNS; seed++) {
            int answer = new OracleTest(seed).run("seed " + seed);
            found += answer > 0 ? 1 : 0;
            tooMuch += answer == Session.TOO_MUCH ? 1 : 0;
            compared += answer >= 0 ? 1 : 0;
        }
        System.out.println(compared + " finds, " + found + " of nodes, and " + tooMuch + " that were too much");
        Session.due("enough finds of nodes", found > RUNS / 5 ? 1 : 0, 1);
        Session.due("some were too much", tooMuch > 0 ? 1 : 0, 1);
        Session.end();
    }

    private static final class Node {
        int id;
        int kind;
        int number;
        String string = "";
        String name = "";
        Node outer;
        final List<Node> children = new ArrayList<>();

        void write(StringBuilder to) {
            switch (kind) {
                case 3 -> to.append(number);
                case 4 -> to.append('"').append(string).append('"');
                case 5, 6 -> {
                    to.append(kind == 5 ? '[' : '{');
                    for (Node child : children) {
                        to.append(child == children.get(0) ? "" : ",");
                        to.append(kind == 6 ? "\"" + child.name + "\":" : "");
                        child.write(to);
                    }
                    to.append(kind == 5 ? ']' : '}');
                }
                default -> to.append(new String[] {"null", "false", "true"}[kind]);
            }
        }

        String path() {
            if (outer == null) {
                return "$";
            }
            return outer.path() + (outer.kind == 5 ? "[" + outer.children.indexOf(this) + "]" : "['" + name + "']");
        }

        int size() {
            return kind == 3 ? number : kind == 4 ? string.length() : children.size();
        }

        void addWithBelow(List<Node> to) {
            to.add(this);
            for (Node child : children) {
                child.addWithBelow(to);
            }
        }
    }

    private static final class TooMuch extends RuntimeException {
        private static final long serialVersionUID = 1;
    }

    /** What a path finds from the node that is looked at. */
    private interface Finding {
        List<Node> from(Node lookedAt);
    }

    /** What a selector finds from a node. */
    private interface Selecting {
        void from(Node node, List<Node> to);
    }

    private interface Holding {
        boolean at(Node lookedAt);
    }

    /** A value, as a node outside the document, or null for NOTHING. */
    private interface Valuing {
        Node at(Node lookedAt);
    }

    private record Made<T>(String text, T meaning) {
    }

    private final List<Node> all = new ArrayList<>();
    private long steps = 0;
    private int segmentsOfQuery = 0;

    private int run(String what) {
        Node root = document(0);
        StringBuilder text = new StringBuilder();
        root.write(text);
        root.addWithBelow(all);
        for (int i = 0; i < all.size(); i++) {
            all.get(i).id = i;
        }
        Made<Finding> query = path("$", 0, false);
        String blanked = withBlanks(text.toString());
        if (all.size() > 40 || blanked.length() > 160 || query.text.length() > 160) {
            return -1;
        }
        Session session = new Session();
        session.document(blanked, all.size());
        session.query(query.text, segmentsOfQuery);
        String name = what + ": " + blanked + " " + query.text;
        int answer = session.tryFind();
        compare(name, session, answer, query.meaning);
        lookAt(name, session, all.get(random.nextInt(all.size())));
        return answer;
    }

    private void compare(String name, Session session, int answer, Finding query) {
        List<Node> due;
        try {
            due = query.from(all.get(0));
        } catch (TooMuch e) {
            Session.due(name, answer, Session.TOO_MUCH);
            Session.due(name + " found(0)", session.paths().found(0), -1);
            return;
        }
        Session.due(name, answer, due.size());
        for (int k = 0; k < due.size() && k < 50; k++) {
            Session.due(name + " found(" + k + ")", session.paths().found(k), due.get(k).id);
        }
        Session.due(name + " found behind the last", session.paths().found(due.size()), -1);
    }

    private void lookAt(String name, Session session, Node node) {
        String at = name + " node " + node.id + " ";
        Session.due(at + "kind", session.paths().kind(node.id), node.kind);
        Session.due(at + "size", session.paths().size(node.id), node.size());
        Session.due(at + "outer", session.paths().outer(node.id), node.outer == null ? -1 : node.outer.id);
        Session.due(at + "string", session.string(node.id), node.string);
        StringBuilder text = new StringBuilder();
        node.write(text);
        int i = random.nextInt(text.length() + 1);
        Session.due(at + "text " + i, session.paths().text(node.id, i), i < text.length() ? text.charAt(i) : 0);
        String path = node.path();
        i = random.nextInt(path.length() + 1);
        Session.due(at + "path " + i, session.paths().path(node.id, i), i < path.length() ? path.charAt(i) : 0);
    }

    private String withBlanks(String text) {
        StringBuilder blanked = new StringBuilder();
        boolean inString = false;
        for (char c : text.toCharArray()) {
            boolean sign = !inString && ",:[]{}".indexOf(c) >= 0;
            blanked.append(sign && random.nextInt(9) == 0 ? " " : "").append(c);
            blanked.append(sign && random.nextInt(9) == 0 ? "  " : "");
            inString ^= c == '"';
        }
        return blanked.toString();
    }

    private Node document(int depth) {
        Node node = new Node();
        boolean holder = depth == 0 ? random.nextInt(20) > 0 : depth < 6 && random.nextInt(5 + depth) < 3;
        node.kind = holder ? 5 + random.nextInt(2) : random.nextInt(5);
        node.number = node.kind == 3 ? number() : 0;
        node.string = node.kind == 4 ? STRINGS[random.nextInt(STRINGS.length)] : "";
        int children = holder ? random.nextInt(depth < 2 ? 6 : 4) + (wide && depth < 3 ? 1 : 0) : 0;
        for (int i = 0; i < children; i++) {
            Node child = document(depth + 1);
            child.name = node.kind == 6 ? NAMES[i] : "";
            child.outer = node;
            node.children.add(child);
        }
        if (node.kind == 6) {
            java.util.Collections.shuffle(node.children, random);
        }
        return node;
    }

    private int number() {
        return random.nextInt(9) == 0 ? random.nextInt(1999999) - 999999 : random.nextInt(5) - 2;
    }

    private Made<Finding> path(String start, int depth, boolean single) {
        int count = random.nextInt(depth == 0 ? 4 : 3) + (depth == 0 ? 1 : 0);
        StringBuilder text = new StringBuilder(start);
        List<Stepping> steppings = new ArrayList<>();
        for (int i = 0; i < count; i++) {
            Made<Stepping> segment = segment(depth, single);
            text.append(segment.text);
            steppings.add(segment.meaning);
        }
        if (depth == 0) {
            segmentsOfQuery = count;
        }
        return new Made<>(text.toString(), lookedAt -> {
            List<Node> before = List.of(start.equals("$") ? all.get(0) : lookedAt);
            for (Stepping stepping : steppings) {
                before = stepping.from(before);
            }
            return before;
        });
    }

    private interface Stepping {
        List<Node> from(List<Node> before);
    }

    private Made<Stepping> segment(int depth, boolean single) {
        boolean below = !single && random.nextInt(wide ? 2 : 4) == 0;
        List<Selecting> selectings = new ArrayList<>();
        String text = below ? ".." : ".";
        int form = random.nextInt(single ? 2 : 3);
        if (form == 0 && wide && !single) {
            form = 2;
        }
        if (form == 0) {
            String name = NAMES[random.nextInt(3)];
            text += name;
            selectings.add(named(name));
        } else if (form == 2 && random.nextBoolean()) {
            text += "*";
            selectings.add((node, to) -> to.addAll(node.children));
        } else {
            text = below ? "..[" : "[";
            int count = single ? 1 : 1 + random.nextInt(wide || random.nextInt(3) == 0 ? 4 : 1);
            for (int i = 0; i < count; i++) {
                Made<Selecting> selector = selector(depth, single);
                text += (i == 0 ? "" : ",") + selector.text;
                selectings.add(selector.meaning);
            }
            text += "]";
        }
        return new Made<>(text, before -> step(before, below, selectings));
    }

    private List<Node> step(List<Node> before, boolean below, List<Selecting> selectings) {
        List<Node> froms = new ArrayList<>();
        for (Node node : before) {
            if (below) {
                node.addWithBelow(froms);
            } else {
                froms.add(node);
            }
        }
        List<Node> to = new ArrayList<>();
        for (Node from : froms) {
            steps++;
            for (Selecting selecting : selectings) {
                selecting.from(from, to);
            }
            if (steps > 1000000 || to.size() > 300) {
                throw new TooMuch();
            }
        }
        return to;
    }

    private static Selecting named(String name) {
        return (node, to) -> {
            for (Node child : node.children) {
                if (node.kind == 6 && child.name.equals(name)) {
                    to.add(child);
                }
            }
        };
    }

    private Made<Selecting> selector(int depth, boolean single) {
        int form = random.nextInt(single ? 2 : depth < 4 ? 7 : 4);
        if (form < 2 && wide && !single) {
            form = 2;
        }
        if (form == 0) {
            String name = random.nextInt(9) == 0 ? "\"\\" : NAMES[random.nextInt(5)];
            return new Made<>("'" + name + "'", named(name));
        }
        if (form == 1) {
            int place = random.nextInt(9) - 4;
            return new Made<>("" + place, (node, to) -> addPlace(node, place < 0 ? node.children.size() + place : place, to));
        }
        if (form == 2) {
            return new Made<>("*", (node, to) -> to.addAll(node.children));
        }
        if (form == 3) {
            return stretch();
        }
        Made<Holding> any = any(depth + 1);
        return new Made<>("?" + any.text, (node, to) -> {
            for (Node child : node.children) {
                if (any.meaning.at(child)) {
                    to.add(child);
                }
            }
        });
    }

    private static void addPlace(Node node, int place, List<Node> to) {
        if (node.kind == 5 && place >= 0 && place < node.children.size()) {
            to.add(node.children.get(place));
        }
    }

    private Integer end() {
        int[] far = {999, -999, 9, -9, 0, -1};
        return random.nextInt(3) == 0 ? null : random.nextInt(4) == 0 ? Integer.valueOf(far[random.nextInt(6)])
                : Integer.valueOf(random.nextInt(13) - 6);
    }

    private Made<Selecting> stretch() {
        Integer from = end();
        Integer to = end();
        Integer step = end();
        String text = (from == null ? "" : from) + ":" + (to == null ? "" : to)
                + (step != null ? ":" + step : random.nextBoolean() ? ":" : "");
        return new Made<>(text, (node, found) -> {
            int s = step == null ? 1 : step;
            int length = node.children.size();
            int f = from == null ? (s > 0 ? 0 : length - 1) : from < 0 ? length + from : from;
            int t = to == null ? (s > 0 ? length : Integer.MIN_VALUE) : to < 0 ? length + to : to;
            f = s > 0 && f < 0 ? 0 : f;
            t = s > 0 && t < 0 ? 0 : t;
            for (int i = 0; s != 0 && i <= 2000; i++) {
                int place = f + i * s;
                if (s > 0 ? place < t : place > t) {
                    addPlace(node, place, found);
                }
            }
        });
    }

    /** Here depth is how many of ?, ! and ( are open. */
    private Made<Holding> any(int depth) {
        Made<Holding> any = allOf(depth);
        while (random.nextInt(5) == 0) {
            Made<Holding> left = any;
            Made<Holding> right = allOf(depth);
            any = new Made<>(left.text + "||" + right.text, at -> left.meaning.at(at) | right.meaning.at(at));
        }
        return any;
    }

    private Made<Holding> allOf(int depth) {
        Made<Holding> hold = test(depth);
        while (random.nextInt(5) == 0) {
            Made<Holding> left = hold;
            Made<Holding> right = test(depth);
            hold = new Made<>(left.text + "&&" + right.text, at -> left.meaning.at(at) & right.meaning.at(at));
        }
        return hold;
    }

    private Made<Holding> test(int depth) {
        int form = random.nextInt(depth < 4 ? 6 : 4);
        if (form == 4) {
            Made<Holding> test = test(depth + 1);
            return new Made<>("!" + test.text, at -> !test.meaning.at(at));
        }
        if (form == 5) {
            Made<Holding> any = any(depth + 1);
            return new Made<>("(" + any.text + ")", any.meaning);
        }
        if (form == 0) {
            Made<Finding> path = path(start(), depth, false);
            return new Made<>(path.text, at -> !path.meaning.from(at).isEmpty());
        }
        return comparison(depth);
    }

    private String start() {
        return random.nextInt(wide ? 2 : 3) == 0 ? "$" : "@";
    }

    private Made<Holding> comparison(int depth) {
        Made<Valuing> left = thing(depth);
        Made<Valuing> right = thing(depth);
        int relation = random.nextInt(6);
        String sign = new String[] {"==", "!=", "<=", ">=", "<", ">"}[relation];
        return new Made<>(left.text + sign + right.text, at -> {
            Node a = left.meaning.at(at);
            Node b = right.meaning.at(at);
            return switch (relation) {
                case 0 -> equal(a, b);
                case 1 -> !equal(a, b);
                case 2 -> less(a, b) || equal(a, b);
                case 3 -> less(b, a) || equal(b, a);
                case 4 -> less(a, b);
                default -> less(b, a);
            };
        });
    }

    private static boolean equal(Node a, Node b) {
        if (a == null || b == null) {
            return a == null && b == null;
        }
        if (a.kind != b.kind || a.size() != b.size() || !a.string.equals(b.string)) {
            return false;
        }
        for (int i = 0; i < a.children.size(); i++) {
            Node child = a.children.get(i);
            boolean met = a.kind == 5 && equal(child, b.children.get(i));
            for (Node other : b.children) {
                met |= a.kind == 6 && other.name.equals(child.name) && equal(child, other);
            }
            if (!met) {
                return false;
            }
        }
        return true;
    }

    private static boolean less(Node a, Node b) {
        if (a == null || b == null || a.kind != b.kind) {
            return false;
        }
        return a.kind == 3 && a.number < b.number || a.kind == 4 && a.string.compareTo(b.string) < 0;
    }

    private static Node plain(int kind, int number, String string) {
        Node node = new Node();
        node.kind = kind;
        node.number = number;
        node.string = string;
        return node;
    }

    private Made<Valuing> thing(int depth) {
        int form = random.nextInt(depth < 4 ? 8 : 6);
        if (form < 3) {
            Made<Finding> path = path(start(), Math.max(depth, 1), true);
            return new Made<>(path.text, at -> {
                List<Node> found = path.meaning.from(at);
                return found.isEmpty() ? null : found.get(0);
            });
        }
        if (form == 6) {
            Made<Valuing> thing = thing(depth + 1);
            return new Made<>("length(" + thing.text + ")", at -> {
                Node value = thing.meaning.at(at);
                return value == null || value.kind < 4 ? null : plain(3, value.size(), "");
            });
        }
        if (form == 7) {
            Made<Finding> path = path(start(), depth + 1, false);
            return new Made<>("count(" + path.text + ")", at -> plain(3, path.meaning.from(at).size(), ""));
        }
        if (form == 3) {
            int number = number();
            return new Made<>("" + number, at -> plain(3, number, ""));
        }
        if (form == 4) {
            String string = STRINGS[random.nextInt(STRINGS.length - 1)];
            return new Made<>("'" + string + "'", at -> plain(4, 0, string));
        }
        int kind = random.nextInt(3);
        return new Made<>(new String[] {"null", "false", "true"}[kind], at -> plain(kind, 0, ""));
    }
}
