/** Promise 1: a new object has no text, document, query, or nodes found. */
final class NewObjectTest {
    public static void main(String[] args) {
        Session.due("NONE", TreePaths.NONE, -1);
        nothingIsThere();
        noText();
        objectsAreApart();
        Session.end();
    }

    private static void nothingIsThere() {
        TreePaths paths = new TreePaths();
        Session.due("place", paths.place(), -1);
        Session.due("found(0)", paths.found(0), -1);
        Session.due("kind(0)", paths.kind(0), -1);
        Session.due("size(0)", paths.size(0), 0);
        Session.due("character(0, 0)", paths.character(0, 0), 0);
        Session.due("outer(0)", paths.outer(0), -1);
        Session.due("path(0, 0)", paths.path(0, 0), 0);
        Session.due("text(0, 0)", paths.text(0, 0), 0);
        Session.due("find", new Session().tryFind(), Session.NO_STATE);
    }

    private static void noText() {
        new Session().illDocument("", 0);
        new Session().illQuery("", 0);
    }

    private static void objectsAreApart() {
        Session one = new Session().document("[1]", 2).finds("$[0]", 1);
        Session other = new Session();
        Session.due("kind of another's node", other.paths().kind(0), -1);
        Session.due("find of another", other.tryFind(), Session.NO_STATE);
        one.findsAgain("$[0]", 1);
    }
}
