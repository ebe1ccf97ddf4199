/** Promise 5: place is that of the latest text that was taken. */
final class PlaceTest {
    public static void main(String[] args) {
        Session session = new Session();
        Session.due("place of none", session.paths().place(), -1);
        session.type("[1,]");
        Session.due("place before it is taken", session.paths().place(), -1);
        session.illDocument("", 3);
        session.type("$.");
        Session.due("place stays", session.paths().place(), 3);
        session.illQuery("", 2);
        session.document("[1]", 2);
        session.illQuery("$x", 1);
        session.query("$", 0);
        session.illDocument(" ", 1);
        Session.due("find", session.tryFind(), 1);
        Session.due("place behind find", session.paths().place(), 1);
        session.query("$[0]", 1);
        Session.due("find", session.tryFind(), 1);
        Session.due("place", session.paths().place(), -1);
        session.illDocument("", 0);
        Session.end();
    }
}
