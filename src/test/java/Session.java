/** A TreePaths object under test; every answer that is not the one that is due is printed and counted. */
final class Session {
    private static int wrong = 0;
    private static int checked = 0;

    // Nothing is promised about an object after this many calls.
    private static final int CALL_LIMIT = 512;

    private final TreePaths paths = new TreePaths();
    private int calls = 0;

    /** The object, for one call. */
    TreePaths paths() {
        calls++;
        if (calls > CALL_LIMIT) {
            throw new AssertionError("the test makes more calls than the document promises anything about");
        }
        return paths;
    }

    // The words of the document that are tested now, and how many answers there were before.
    private static String sentence = "";
    private static int checkedBefore = -1;

    static void due(String what, long got, long want) {
        checked++;
        if (got != want) {
            wrong(what + " answered " + got + ", due is " + want);
        }
    }

    static void due(String what, String got, String want) {
        checked++;
        if (!got.equals(want)) {
            wrong(what + " answered <" + got + ">, due is <" + want + ">");
        }
    }

    private static void wrong(String what) {
        wrong++;
        if (!sentence.isEmpty()) {
            System.out.println("BROKEN: " + sentence);
        }
        System.out.println(what);
    }

    /** The answers from here on are due by these words of the document. */
    static void sentence(String words) {
        if (checked == checkedBefore) {
            wrong("no answer was looked at");
        }
        sentence = words;
        checkedBefore = checked;
    }

    /** Ends the test's program: with exit code 1 if an answer was wrong, or none was looked at. */
    static void end() {
        sentence("");
        System.out.println(checked + " answers, " + wrong + " not as due");
        if (wrong != 0 || checked == 0) {
            System.exit(1);
        }
    }

    /** A document's text, written with ' for its quotes. */
    static String quoted(String text) {
        return text.replace('\'', '"');
    }

    Session type(String text) {
        for (int i = 0; i < text.length(); i++) {
            due("type " + (int) text.charAt(i), paths().type(text.charAt(i)) ? 1 : 0, 1);
        }
        return this;
    }

    Session document(String text, int nodes) {
        type(text);
        due("document " + text, takeDocument(), nodes);
        due("place of document " + text, paths().place(), TreePaths.NONE);
        return this;
    }

    Session illDocument(String text, int place) {
        type(text);
        due("document " + text, takeDocument(), ILL);
        due("place of document " + text, paths().place(), place);
        return this;
    }

    Session query(String text, int segments) {
        type(text);
        due("query " + text, takeQuery(), segments);
        due("place of query " + text, paths().place(), TreePaths.NONE);
        return this;
    }

    Session illQuery(String text, int place) {
        type(text);
        due("query " + text, takeQuery(), ILL);
        due("place of query " + text, paths().place(), place);
        return this;
    }

    /** Compiles the query and looks at all nodes that it finds. */
    Session finds(String query, int... nodes) {
        type(query);
        if (takeQuery() == ILL) {
            due("query " + query + " is ill", paths().place(), TreePaths.NONE);
        }
        return findsAgain(query, nodes);
    }

    Session findsAgain(String what, int... nodes) {
        due("find " + what, tryFind(), nodes.length);
        due("found by " + what, foundNodes(), java.util.Arrays.toString(nodes));
        return this;
    }

    String foundNodes() {
        java.util.ArrayList<Integer> found = new java.util.ArrayList<>();
        int node = paths().found(0);
        while (node != TreePaths.NONE) {
            found.add(node);
            node = paths().found(found.size());
        }
        return found.toString();
    }

    static final int ILL = -1000;
    static final int NO_STATE = -1001;
    static final int TOO_MUCH = -1002;

    int takeDocument() {
        try {
            return paths().document();
        } catch (IllegalArgumentException e) {
            return ILL;
        }
    }

    int takeQuery() {
        try {
            return paths().query();
        } catch (IllegalArgumentException e) {
            return ILL;
        }
    }

    int tryFind() {
        try {
            return paths().find();
        } catch (IllegalStateException e) {
            return NO_STATE;
        } catch (UnsupportedOperationException e) {
            return TOO_MUCH;
        }
    }

    String path(int node) {
        return all(i -> paths().path(node, i));
    }

    String text(int node) {
        return all(i -> paths().text(node, i));
    }

    String string(int node) {
        return all(i -> paths().character(node, i));
    }

    private static String all(java.util.function.IntUnaryOperator character) {
        StringBuilder all = new StringBuilder();
        int next = character.applyAsInt(0);
        while (next != 0) {
            all.append((char) next);
            next = character.applyAsInt(all.length());
        }
        return all.toString();
    }
}
