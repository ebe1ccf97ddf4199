/** Promise 2: type. */
final class TypeTest {
    public static void main(String[] args) {
        codes();
        refusedOnesAreNotAppended();
        atMost160();
        Session.end();
    }

    private static void codes() {
        for (int code = 0; code <= 65535; code++) {
            int due = code >= 32 && code <= 126 ? 1 : 0;
            Session.due("type " + code, new TreePaths().type((char) code) ? 1 : 0, due);
        }
    }

    private static void refusedOnesAreNotAppended() {
        Session session = new Session().type("4");
        Session.due("type 31", session.paths().type((char) 31) ? 1 : 0, 0);
        session.type("2");
        Session.due("type 127", session.paths().type((char) 127) ? 1 : 0, 0);
        session.document("", 1);
        Session.due("size(0)", session.paths().size(0), 42);
    }

    private static void atMost160() {
        Session session = new Session().type(" ".repeat(159) + "7");
        Session.due("a 161st", session.paths().type('8') ? 1 : 0, 0);
        Session.due("a 161st again", session.paths().type(' ') ? 1 : 0, 0);
        session.document("", 1);
        Session.due("size(0)", session.paths().size(0), 7);
        session.type(" ".repeat(160));
        Session.due("a 161st", session.paths().type('8') ? 1 : 0, 0);
        session.illQuery("", 0);
        session.type(" ".repeat(160));
        Session.due("a 161st", session.paths().type('8') ? 1 : 0, 0);
        session.illDocument("", 160);
    }
}
