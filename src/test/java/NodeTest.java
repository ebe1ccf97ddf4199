/** Promises 8 to 11: kind, size, character and outer. */
final class NodeTest {
    private static final int[] NO_NODES = {-1, 10, 39, 40, 41, Integer.MAX_VALUE, Integer.MIN_VALUE};

    public static void main(String[] args) {
        kinds();
        sizes();
        characters();
        outers();
        Session.end();
    }

    private static Session all() {
        return new Session().document("[null,false,true,-12,\"a b\",[0,0],{\"x\":999999}]", 11);
    }

    private static void kinds() {
        Session session = all();
        int[] kinds = {5, 0, 1, 2, 3, 4, 5, 3, 3, 6, 3};
        for (int node = 0; node < kinds.length; node++) {
            Session.due("kind(" + node + ")", session.paths().kind(node), kinds[node]);
        }
        for (int node : NO_NODES) {
            Session.due("kind(" + node + ")", session.paths().kind(node), node == 10 ? 3 : -1);
        }
        Session.due("kind(11)", session.paths().kind(11), -1);
    }

    private static void sizes() {
        Session session = all();
        int[] sizes = {7, 0, 0, 0, -12, 3, 2, 0, 0, 1, 999999};
        for (int node = 0; node < sizes.length; node++) {
            Session.due("size(" + node + ")", session.paths().size(node), sizes[node]);
        }
        for (int node : new int[] {-1, 11, 40, Integer.MAX_VALUE, Integer.MIN_VALUE}) {
            Session.due("size(" + node + ")", session.paths().size(node), 0);
        }
        session = new Session().document("{\"a\":[],\"b\":{},\"c\":\"\",\"d\":-999999}", 5);
        int[] others = {4, 0, 0, 0, -999999};
        for (int node = 0; node < others.length; node++) {
            Session.due("size(" + node + ")", session.paths().size(node), others[node]);
        }
    }

    private static void characters() {
        Session session = all();
        Session.due("string", session.string(5), "a b");
        for (int i : new int[] {3, -1, 160, Integer.MAX_VALUE, Integer.MIN_VALUE}) {
            Session.due("character(5, " + i + ")", session.paths().character(5, i), 0);
        }
        for (int node : new int[] {0, 1, 2, 3, 4, 6, 7, 9, 10, 11, -1, Integer.MAX_VALUE, Integer.MIN_VALUE}) {
            Session.due("character(" + node + ", 0)", session.paths().character(node, 0), 0);
        }
        session = new Session().document("[\"\",\" '/[}:,\",\"12345678\"]", 4);
        Session.due("string", session.string(1), "");
        Session.due("string", session.string(2), " '/[}:,");
        Session.due("string", session.string(3), "12345678");
    }

    private static void outers() {
        Session session = new Session().document("{\"a\":[1,{\"b\":2},[]],\"c\":[[3]]}", 9);
        int[] outers = {-1, 0, 1, 1, 3, 1, 0, 6, 7};
        for (int node = 0; node < outers.length; node++) {
            Session.due("outer(" + node + ")", session.paths().outer(node), outers[node]);
        }
        for (int node : new int[] {-1, 9, 40, Integer.MAX_VALUE, Integer.MIN_VALUE}) {
            Session.due("outer(" + node + ")", session.paths().outer(node), -1);
        }
    }
}
