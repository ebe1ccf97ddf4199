/** Promise 12: path. */
final class PathTest {
    public static void main(String[] args) {
        Session session = new Session().document(
                " { \"a\" : [ 1 , { \"b c\" : 2 } , [ ] ] , \"'\" : { \"\" : [ 3 ] } } ", 9);
        String[] paths = {"$", "$['a']", "$['a'][0]", "$['a'][1]", "$['a'][1]['b c']", "$['a'][2]", "$[''']",
                "$[''']['']", "$['''][''][0]"};
        for (int node = 0; node < paths.length; node++) {
            Session.due("path of " + node, session.path(node), paths[node]);
            Session.due("path behind its end", session.paths().path(node, paths[node].length()), 0);
        }
        for (int i : new int[] {-1, 1, 160, Integer.MAX_VALUE, Integer.MIN_VALUE}) {
            Session.due("path(0, " + i + ")", session.paths().path(0, i), 0);
        }
        for (int node : new int[] {-1, 9, 40, Integer.MAX_VALUE, Integer.MIN_VALUE}) {
            Session.due("path(" + node + ", 0)", session.paths().path(node, 0), 0);
        }
        longPaths();
        Session.end();
    }

    private static void longPaths() {
        Session places = new Session().document("[" + "1,".repeat(38) + "1]", 40);
        Session.due("path of 10", places.path(10), "$[9]");
        Session.due("path of 39", places.path(39), "$[38]");
        String name = "\"12345678\"";
        Session names = new Session().document("{" + name + ":{" + name + ":{" + name + ":{" + name + ":{" + name
                + ":{" + name + ":1}}}}}}", 7);
        Session.due("path of 6", names.path(6), "$" + "['12345678']".repeat(6));
        Session.due("path of 5", names.path(5), "$" + "['12345678']".repeat(5));
    }
}
