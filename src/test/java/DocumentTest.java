/** Promise 3: document, and the places at which a text is no document. */
final class DocumentTest {
    public static void main(String[] args) {
        plainValues();
        holders();
        blanks();
        illValues();
        illNumbersAndStrings();
        illHolders();
        limits();
        textIsEmptyThen();
        illLeavesAllAsItWas();
        aNewOneTakesThePlace();
        Session.end();
    }

    private static void plainValues() {
        for (String text : new String[] {"null", "true", "false", "0", "7", "-7", "999999", "-999999", "\"\"",
                "\"12345678\"", "\"a'b /[\"", "\"        \""}) {
            Session session = new Session().document(text, 1);
            Session.due("text", session.text(0), text);
        }
    }

    private static void holders() {
        new Session().document("[]", 1);
        new Session().document("{}", 1);
        new Session().document("[[],{}]", 3);
        new Session().document("[1,2,3]", 4);
        new Session().document("{\"a\":1,\"b\":{\"a\":2}}", 4);
        new Session().document("{\"\":1,\" \":2}", 3);
        new Session().document("{\"12345678\":[0]}", 3);
    }

    private static void blanks() {
        new Session().document("  null  ", 1);
        new Session().document(" [ ] ", 1);
        new Session().document(" { } ", 1);
        Session session = new Session().document(" [ 1 , { \"a b\" : \" c \" , \"d\" : [ ] } ] ", 5);
        Session.due("text", session.text(0), "[1,{\"a b\":\" c \",\"d\":[]}]");
        new Session().illDocument("nu ll", 2);
        new Session().illDocument("1 2", 2);
        new Session().illDocument("- 1", 1);
        new Session().illDocument("   ", 3);
    }

    private static void illValues() {
        new Session().illDocument("x", 0);
        new Session().illDocument("n", 1);
        new Session().illDocument("nul", 3);
        new Session().illDocument("nulL", 3);
        new Session().illDocument("nulll", 4);
        new Session().illDocument("tru", 3);
        new Session().illDocument("trux", 3);
        new Session().illDocument("fals ", 4);
        new Session().illDocument("True", 0);
        new Session().illDocument("truefalse", 4);
        new Session().illDocument("'a'", 0);
        new Session().illDocument("]", 0);
    }

    private static void illNumbersAndStrings() {
        new Session().illDocument("00", 1);
        new Session().illDocument("01234567", 1);
        new Session().illDocument("-", 1);
        new Session().illDocument("-0", 1);
        new Session().illDocument("-01", 1);
        new Session().illDocument("--1", 1);
        new Session().illDocument("+1", 0);
        new Session().illDocument("1.5", 1);
        new Session().illDocument("123456x", 6);
        new Session().illDocument("1234567", 0);
        new Session().illDocument("[1,-1234567]", 3);
        new Session().illDocument(" [1, 1234567x", 5);
        new Session().illDocument("\"", 1);
        new Session().illDocument("\"12345678", 9);
        new Session().illDocument("\"123456789\"", 0);
        new Session().illDocument("\"123456789", 0);
        new Session().illDocument("\"123\\\"", 4);
        new Session().illDocument("\"12345678\\\"", 9);
        new Session().illDocument("\"1234567\\9\"", 8);
        new Session().illDocument("[1,\"123456789\"]", 3);
    }

    private static void illHolders() {
        new Session().illDocument("[", 1);
        new Session().illDocument("[1", 2);
        new Session().illDocument("[1,", 3);
        new Session().illDocument("[1,]", 3);
        new Session().illDocument("[1, ]", 4);
        new Session().illDocument("[,1]", 1);
        new Session().illDocument("[1 2]", 3);
        new Session().illDocument("[1}", 2);
        new Session().illDocument("[1]]", 3);
        new Session().illDocument("{", 1);
        new Session().illDocument("{,", 1);
        new Session().illDocument("{a:1}", 1);
        new Session().illDocument("{\"a\"}", 4);
        new Session().illDocument("{\"a\":}", 5);
        new Session().illDocument("{\"a\":1", 6);
        new Session().illDocument("{\"a\":1,}", 7);
        new Session().illDocument("{\"a\":1,2}", 7);
        new Session().illDocument("{\"a\":1]", 6);
        new Session().illDocument("{\"123456789\":1}", 1);
        new Session().illDocument("{\"a\":1,\"a\":2}", 7);
        new Session().illDocument("{\"a\":1, \"a\"", 8);
        new Session().illDocument("{\"a\":1,\"a", 9);
        new Session().illDocument("{\"a\":1,\"b\":{\"a\":1,\"c\":2,\"a\":3}}", 24);
        new Session().illDocument("{\"\":1,\"\":2}", 6);
        new Session().document("{\"a\":{\"a\":{\"a\":1}}}", 4);
    }

    private static void limits() {
        new Session().document("[[[[[[1]]]]]]", 7);
        new Session().document("[[[[[[]]]]],[[[[[]]]]]]", 11);
        new Session().document("{\"a\":[{\"a\":[{\"a\":[1,2]}]}]}", 8);
        new Session().illDocument("[[[[[[[]]]]]]]", 6);
        new Session().illDocument("[[[[[[ {", 7);
        new Session().illDocument("{\"a\":[{\"a\":[{\"a\":[{}]}]}]}", 18);
        new Session().document("[" + "1,".repeat(38) + "1]", 40);
        new Session().illDocument("[" + "1,".repeat(39) + "1]", 79);
        new Session().illDocument("[" + "1,".repeat(39) + " [", 80);
        new Session().document("[" + "[],".repeat(38) + "[]]", 40);
        new Session().illDocument("[" + "1,".repeat(37) + "[1,2]]", 78);
        new Session().illDocument("[" + "1,".repeat(38) + "{\"123456789\":1}]", 78);
    }

    private static void textIsEmptyThen() {
        Session session = new Session().document("12", 1).illDocument("", 0);
        session.illDocument("x", 0).document("3", 1);
        Session.due("size(0)", session.paths().size(0), 3);
    }

    private static void illLeavesAllAsItWas() {
        Session session = new Session().document("[5,\"ab\",{\"x\":[]}]", 5).finds("$..*", 1, 2, 3, 4);
        for (String ill : new String[] {"[1,2,{\"y\":\"c\"},4,[5", "{\"a\":1,\"a\":2}", "", "[[[[[[[1]]]]]]]"}) {
            session.type(ill);
            Session.due("document " + ill, session.takeDocument(), Session.ILL);
            Session.due("found", session.foundNodes(), "[1, 2, 3, 4]");
            Session.due("text", session.text(0), "[5,\"ab\",{\"x\":[]}]");
            Session.due("path", session.path(4), "$[2]['x']");
            Session.due("string", session.string(2), "ab");
        }
        session.findsAgain("$..*", 1, 2, 3, 4);
    }

    private static void aNewOneTakesThePlace() {
        Session session = new Session().document("[1,2,3]", 4).finds("$[*]", 1, 2, 3);
        session.document("{\"a\":[]}", 2);
        Session.due("found", session.foundNodes(), "[]");
        Session.due("kind(3)", session.paths().kind(3), -1);
        Session.due("kind(0)", session.paths().kind(0), 6);
        session.findsAgain("$[*]", 1);
        session.document("null", 1).findsAgain("$[*]").document("[1,2]", 3).findsAgain("$[*]", 1, 2);
    }
}
