/** What the document says of the calls, in promises 1 to 5 and 7 to 13: a test for each sentence that names a boundary. */
final class BoundaryCallsTest {
    public static void main(String[] args) {
        objectIsGoodFor512Calls();
        noneIsMinusOne();
        newObjectHasNoText();
        newObjectHasNoDocument();
        newObjectHasNoQuery();
        newObjectHasNoNodesFound();
        typeRefusesOtherCodes();
        typeRefusesA161st();
        documentEmptiesTheText();
        documentTakesThePlaceOfTheOneBefore();
        documentLeavesNothingFound();
        documentAnswersHowManyNodes();
        illDocumentStays();
        queryEmptiesTheText();
        queryTakesThePlaceOfTheOneBefore();
        queryLeavesWhatIsFound();
        queryAnswersHowManySegments();
        illQueryStays();
        placeIsThatOfTheLatestText();
        placeIsNoneIfItWasNotIll();
        placeIsNoneIfThereWasNoText();
        foundCountsFromZero();
        kinds();
        kindOfNoNode();
        sizes();
        sizeOfOthers();
        characters();
        characterThatIsNotThere();
        outers();
        outerOfNodeZeroAndOfNoNode();
        paths();
        pathHasQuotesAsTheyAre();
        pathThatIsNotThere();
        texts();
        textThatIsNotThere();
        Session.end();
    }

    private static final int LOWEST = Integer.MIN_VALUE;
    private static final int HIGHEST = Integer.MAX_VALUE;

    private static Session with(String document) {
        Session session = new Session().type(Session.quoted(document));
        Session.due("document " + document, session.takeDocument() > 0 ? 1 : 0, 1);
        return session;
    }

    private static void objectIsGoodFor512Calls() {
        Session.sentence("An object is used for at most 512 calls after it has been made");
        TreePaths paths = new TreePaths();
        for (int i = 0; i < 160; i++) {
            Session.due("type", paths.type(i == 0 ? '7' : ' ') ? 1 : 0, 1);
        }
        Session.due("document", paths.document(), 1);
        Session.due("type", paths.type('$') ? 1 : 0, 1);
        Session.due("query", paths.query(), 0);
        for (int i = 163; i < 510; i++) {
            Session.due("find", paths.find(), 1);
        }
        Session.due("found(0), the 511th call", paths.found(0), 0);
        Session.due("size(0), the 512th call", paths.size(0), 7);
    }

    private static void noneIsMinusOne() {
        Session.sentence("NONE = -1: Nothing there");
        Session.due("NONE", TreePaths.NONE, -1);
    }

    private static void newObjectHasNoText() {
        Session.sentence("TreePaths(): No text");
        new Session().illDocument("", 0);
        new Session().illQuery("", 0);
        new Session().document("1", 1);
        new Session().query("$", 0);
        new Session().type("1").illDocument("]", 1);
        new Session().document("[1]", 2);
    }

    private static void newObjectHasNoDocument() {
        Session.sentence("TreePaths(): No document");
        TreePaths paths = new TreePaths();
        for (int node : new int[] {0, 1, -1, 39, 40, HIGHEST, LOWEST}) {
            Session.due("kind", paths.kind(node), -1);
            Session.due("size", paths.size(node), 0);
            Session.due("outer", paths.outer(node), -1);
            for (int i : new int[] {0, 1, -1, HIGHEST, LOWEST}) {
                Session.due("character", paths.character(node, i), 0);
                Session.due("path", paths.path(node, i), 0);
                Session.due("text", paths.text(node, i), 0);
            }
        }
        Session.due("find", new Session().query("$", 0).tryFind(), Session.NO_STATE);
    }

    private static void newObjectHasNoQuery() {
        Session.sentence("TreePaths(): No query");
        Session.due("find", new Session().document("1", 1).tryFind(), Session.NO_STATE);
        // What another object has isn't there, either.
        new Session().document("1", 1).finds("$", 0);
        Session.due("find", new Session().document("1", 1).tryFind(), Session.NO_STATE);
    }

    private static void newObjectHasNoNodesFound() {
        Session.sentence("TreePaths(): No nodes found");
        TreePaths paths = new TreePaths();
        for (int k : new int[] {0, 1, -1, 299, 300, HIGHEST, LOWEST}) {
            Session.due("found(" + k + ")", paths.found(k), -1);
        }
        Session.due("found", new Session().document("[1]", 2).query("$", 0).foundNodes(), "[]");
    }

    private static void typeRefusesOtherCodes() {
        Session.sentence("Appends a character to the text; false if its code isn't 32 .. 126");
        for (int code : new int[] {0, 1, 9, 10, 13, 31, 127, 128, 160, 255, 256, 256 + 65, 32767, 32768, 65535}) {
            Session session = new Session().type("1");
            Session.due("type " + code, session.paths().type((char) code) ? 1 : 0, 0);
            session.type("2").document("", 1);
            Session.due("size", session.paths().size(0), 12);
        }
        for (char code : new char[] {32, 33, 125, 126}) {
            Session session = new Session().type("\"");
            Session.due("type " + (int) code, session.paths().type(code) ? 1 : 0, 1);
            session.type("\"").document("", 1);
            Session.due("character", session.paths().character(0, 0), code);
        }
    }

    private static void typeRefusesA161st() {
        Session.sentence("false if .. 160 are there");
        Session session = new Session().type("[" + " ".repeat(158));
        Session.due("type of the 160th", session.paths().type(']') ? 1 : 0, 1);
        for (char c : new char[] {' ', ']', '1', 10}) {
            Session.due("type of a 161st", session.paths().type(c) ? 1 : 0, 0);
        }
        session.document("", 1);
        session.document("[2]", 2);
        // Those that were refused for their code take no room.
        Session refused = new Session();
        for (int i = 0; i < 5; i++) {
            Session.due("type of a wrong code", refused.paths().type((char) 127) ? 1 : 0, 0);
        }
        refused.type(" ".repeat(159) + "1");
        Session.due("type of a 161st", refused.paths().type(' ') ? 1 : 0, 0);
        refused.document("", 1);
    }

    private static void documentEmptiesTheText() {
        Session.sentence("Takes the text (it is empty then, in any case) as the document");
        new Session().document("12", 1).illDocument("", 0);
        new Session().document("1", 1).illQuery("", 0);
        new Session().illDocument("[1", 2).document("2", 1);
        new Session().illDocument("#", 0).query("$", 0);
        new Session().illDocument("", 0).illDocument("", 0).document("2", 1);
        Session full = new Session().illDocument(" ".repeat(160), 160);
        Session.due("type", full.paths().type('3') ? 1 : 0, 1);
        full.document("", 1);
    }

    private static void documentTakesThePlaceOfTheOneBefore() {
        Session.sentence("as the document, in place of the one before");
        Session session = with("[" + "1,".repeat(37) + "['abc']]");
        session.document(Session.quoted("{'x':[5]}"), 3);
        Session.due("text", session.text(0), Session.quoted("{'x':[5]}"));
        Session.due("path", session.path(2), "$['x'][0]");
        for (int node : new int[] {3, 38, 39, 40}) {
            Session.due("kind", session.paths().kind(node), -1);
            Session.due("size", session.paths().size(node), 0);
            Session.due("character", session.paths().character(node, 0), 0);
            Session.due("outer", session.paths().outer(node), -1);
            Session.due("path", session.paths().path(node, 0), 0);
            Session.due("text", session.paths().text(node, 0), 0);
        }
        session.finds("$..*", 1, 2).document("[7,8,9]", 4).finds("$..*", 1, 2, 3).document("7", 1).finds("$..*");
        // An object has the members of its own text alone, and not those of the one before.
        session.document(Session.quoted("{'a':1}"), 2).document(Session.quoted("{'b':1}"), 2);
        session.finds("$.a").finds("$.b", 1);
    }

    private static void documentLeavesNothingFound() {
        Session.sentence("nothing is found then");
        Session session = new Session().document("[1]", 2).finds("$", 0);
        session.document("[1]", 2);
        Session.due("found(0)", session.paths().found(0), -1);
        session.findsAgain("$", 0).document("7", 1);
        Session.due("found(0)", session.paths().found(0), -1);
    }

    private static void documentAnswersHowManyNodes() {
        Session.sentence("document: how many nodes");
        new Session().document("7", 1);
        new Session().document("[]", 1);
        new Session().document("[[]]", 2);
        new Session().document("[" + "1,".repeat(38) + "1]", 40);
    }

    private static void illDocumentStays() {
        Session.sentence("IllegalArgumentException: it is ILL (document and what is found stay)");
        for (String ill : new String[] {"", "7 7", "{'y':[7,8,", "[[[[[[[", "['zz','zz','zz','zz','zz'#", "[1000000]", "{'a':1,'a':2}",
                "[" + "1,".repeat(39) + "1]"}) {
            Session session = with("{'x':['ab',-3]}").finds("$.x[0,1]", 2, 3);
            session.type(Session.quoted(ill));
            Session.due("document " + ill, session.takeDocument(), Session.ILL);
            Session.due("found", session.foundNodes(), "[2, 3]");
            Session.due("text", session.text(0), Session.quoted("{'x':['ab',-3]}"));
            Session.due("path", session.path(3), "$['x'][1]");
            Session.due("string", session.string(2), "ab");
            Session.due("kind(3)", session.paths().kind(3), 3);
            Session.due("size(3)", session.paths().size(3), -3);
            Session.due("outer(3)", session.paths().outer(3), 1);
            Session.due("kind(4)", session.paths().kind(4), -1);
            session.findsAgain("the query", 2, 3);
        }
        Session first = new Session().illDocument("[1", 2);
        Session.due("kind(0)", first.paths().kind(0), -1);
        Session.due("text(0, 0)", first.paths().text(0, 0), 0);
    }

    private static void queryEmptiesTheText() {
        Session.sentence("Takes the text likewise as the query (it is empty then, in any case)");
        new Session().query("$.a", 1).illQuery("", 0);
        new Session().query("$", 0).illDocument("", 0);
        new Session().illQuery("$.", 2).query("$.a", 1);
        new Session().illQuery("#", 0).document("1", 1);
        new Session().illQuery("", 0).illQuery("", 0).query("$", 0);
        Session full = new Session().illQuery("$" + ".a".repeat(79) + ".", 160);
        Session.due("type", full.paths().type('$') ? 1 : 0, 1);
        full.query("", 0);
    }

    private static void queryTakesThePlaceOfTheOneBefore() {
        Session.sentence("as the query, in place of the one before");
        Session session = with("[1,[2]]").finds("$[1][0]", 3).finds("$[0]", 1).finds("$", 0).finds("$[?@==1]", 1);
        session.finds("$[?@==2]").finds("$[1][?@==2]", 3);
    }

    private static void queryLeavesWhatIsFound() {
        Session.sentence("(what is found stays)");
        Session session = with("[1,[2]]").finds("$[1,0]", 2, 1);
        session.query("$", 0);
        Session.due("found", session.foundNodes(), "[2, 1]");
        session.query("$[9]", 1);
        Session.due("found", session.foundNodes(), "[2, 1]");
        session.findsAgain("$[9]");
    }

    private static void queryAnswersHowManySegments() {
        Session.sentence("how many segments it has (those of PATHs don't count)");
        new Session().query("$", 0);
        new Session().query("$..*", 1);
        new Session().query("$[1,2,3,4]", 1);
        new Session().query("$" + ".a".repeat(79), 79);
        new Session().query("$[?@]", 1);
        new Session().query("$[?@.a.b.c]", 1);
        new Session().query("$.x[?$.a.b==@.c&&@[?@.d.e]||count(@.f..g)>1].y", 3);
    }

    private static void illQueryStays() {
        Session.sentence("IllegalArgumentException: it is ILL (the query stays)");
        for (String ill : new String[] {"", "$.", "$[0]#", "$[0][?@.*==1]", "$[?!!!!@]", "$.abcdefghi"}) {
            Session session = with("[1,[2]]").finds("$[1][0]", 3);
            session.type(ill);
            Session.due("query " + ill, session.takeQuery(), Session.ILL);
            Session.due("found", session.foundNodes(), "[3]");
            session.findsAgain("$[1][0]", 3);
            session.document("[4,[5,6]]", 5).findsAgain("$[1][0]", 3);
        }
        Session first = new Session().document("1", 1).illQuery("$.", 2);
        Session.due("find", first.tryFind(), Session.NO_STATE);
    }

    private static void placeIsThatOfTheLatestText() {
        Session.sentence("The place at which the latest text that was taken was ILL");
        Session session = new Session().illDocument("[1,#", 3).illQuery("$#", 1).illQuery("", 0).illDocument("[[", 2);
        session.type("[[[[").paths().type((char) 10);
        Session.due("place while another is typed", session.paths().place(), 2);
        Session.due("place asked again", session.paths().place(), 2);
        Session.due("find", session.tryFind(), Session.NO_STATE);
        Session.due("place behind find", session.paths().place(), 2);
        session.illDocument("", 4);
        session.illDocument(" ".repeat(160), 160);
    }

    private static void placeIsNoneIfItWasNotIll() {
        Session.sentence("NONE if it wasn't");
        new Session().illDocument("#", 0).document("1", 1);
        new Session().illDocument("#", 0).query("$", 0);
        new Session().illQuery("#", 0).query("$", 0);
        new Session().illQuery("#", 0).document("1", 1);
    }

    private static void placeIsNoneIfThereWasNoText() {
        Session.sentence("or there was none");
        Session session = new Session();
        Session.due("place", session.paths().place(), -1);
        session.type("#");
        Session.due("place of a text that isn't taken", session.paths().place(), -1);
        Session.due("find", session.tryFind(), Session.NO_STATE);
        Session.due("place behind find", session.paths().place(), -1);
    }

    private static void foundCountsFromZero() {
        Session.sentence("The k-th node found, from 0; NONE if there is none");
        Session session = with("[1,[2],3]").finds("$[2,1,0]", 4, 2, 1);
        Session.due("found(0)", session.paths().found(0), 4);
        Session.due("found(2)", session.paths().found(2), 1);
        for (int k : new int[] {3, 4, 299, 300, 301, -1, -2, -3, HIGHEST, LOWEST}) {
            Session.due("found(" + k + ")", session.paths().found(k), -1);
        }
        session.finds("$[9]");
        Session.due("found(0) of none", session.paths().found(0), -1);
        session.finds("$", 0);
        Session.due("found(1) of one", session.paths().found(1), -1);
    }

    private static final String ALL_KINDS = "[null,false,true,-12,'a b',[0,0],{'x':999999}]";

    private static void kinds() {
        Session.sentence("What a node is: 0 null, 1 false, 2 true, 3 a number, 4 a string, 5 an array, 6 an object");
        String[] values = {"null", "false", "true", "0", "''", "[]", "{}"};
        for (int kind = 0; kind < values.length; kind++) {
            Session.due("kind of " + values[kind], with(values[kind]).paths().kind(0), kind);
            Session.due("kind of an inner " + values[kind], with("[[" + values[kind] + "]]").paths().kind(2), kind);
        }
    }

    private static void kindOfNoNode() {
        Session.sentence("kind: NONE if there is none");
        Session.due("kind(0) of no document", new Session().paths().kind(0), -1);
        Session session = with(ALL_KINDS);
        Session.due("kind(10)", session.paths().kind(10), 3);
        for (int node : new int[] {11, 12, 39, 40, 41, -1, -11, HIGHEST, LOWEST}) {
            Session.due("kind(" + node + ")", session.paths().kind(node), -1);
        }
        Session full = with("[" + "1,".repeat(38) + "1]");
        Session.due("kind(39)", full.paths().kind(39), 3);
        Session.due("kind(40)", full.paths().kind(40), -1);
    }

    private static void size(String value, int size) {
        Session.due("size of " + value, with(value).paths().size(0), size);
        Session.due("size of an inner " + value, with("[" + value + "]").paths().size(1), size);
    }

    private static void sizes() {
        Session.sentence("A number; the length of a string; how many children an array or object has");
        size("0", 0);
        size("-1", -1);
        size("999999", 999999);
        size("-999999", -999999);
        size("''", 0);
        size("'abcdefgh'", 8);
        size("[]", 0);
        size("[[1,2,3]]", 1);
        size("[[],[],[1]]", 3);
        size("{}", 0);
        size("{'a':{'b':1},'c':2}", 2);
        Session.due("size of a full array", with("[" + "1,".repeat(38) + "1]").paths().size(0), 39);
    }

    private static void sizeOfOthers() {
        Session.sentence("size: 0 for others");
        size("null", 0);
        size("false", 0);
        size("true", 0);
        Session session = with("[7,8]");
        for (int node : new int[] {3, 39, 40, -1, HIGHEST, LOWEST}) {
            Session.due("size(" + node + ")", session.paths().size(node), 0);
        }
        Session.due("size(0) of no document", new Session().paths().size(0), 0);
        // The nodes of longer texts before don't show through.
        session.document("[99,98,97,96]", 5).document("[null,true]", 3);
        Session.due("size(1)", session.paths().size(1), 0);
        Session.due("size(2)", session.paths().size(2), 0);
        Session.due("size(3)", session.paths().size(3), 0);
    }

    private static void characters() {
        Session.sentence("Character i of a string");
        Session session = with("['a b~','abcdefgh',{'name':' x '}]");
        Session.due("string 1", session.string(1), "a b~");
        Session.due("string 2", session.string(2), "abcdefgh");
        Session.due("string 4", session.string(4), " x ");
        Session.due("character(2, 7)", session.paths().character(2, 7), 'h');
    }

    private static void characterThatIsNotThere() {
        Session.sentence("character: 0 if there is none");
        Session session = with("['abc','',12,null,true,['x'],{'y':'z'}]");
        for (int i : new int[] {3, 4, 8, -1, HIGHEST, LOWEST}) {
            Session.due("character(1, " + i + ")", session.paths().character(1, i), 0);
        }
        for (int node : new int[] {0, 2, 3, 4, 5, 6, 8, 10, 39, 40, -1, HIGHEST, LOWEST}) {
            Session.due("character(" + node + ", 0)", session.paths().character(node, 0), 0);
        }
        Session.due("character(0, 0) of no document", new Session().paths().character(0, 0), 0);
        session.document("[5,[5,5]]", 5);
        Session.due("character(1, 0) of a number", session.paths().character(1, 0), 0);
        Session.due("character(2, 1) of an array", session.paths().character(2, 1), 0);
    }

    private static void outers() {
        Session.sentence("The node in which a node lies");
        Session session = with("[[1,{'a':[2]},3],[],4]");
        int[] outers = {-1, 0, 1, 1, 3, 4, 1, 0, 0};
        for (int node = 0; node < outers.length; node++) {
            Session.due("outer(" + node + ")", session.paths().outer(node), outers[node]);
        }
        Session deep = with("[[[[[[1]]]]]]");
        for (int node = 0; node < 7; node++) {
            Session.due("outer(" + node + ")", deep.paths().outer(node), node - 1);
        }
    }

    private static void outerOfNodeZeroAndOfNoNode() {
        Session.sentence("outer: NONE for node 0, or if there is none");
        Session.due("outer(0) of no document", new Session().paths().outer(0), -1);
        Session session = with("[7,[8]]");
        for (int node : new int[] {0, 4, 5, 39, 40, -1, HIGHEST, LOWEST}) {
            Session.due("outer(" + node + ")", session.paths().outer(node), -1);
        }
        session.document("7", 1);
        Session.due("outer(0)", session.paths().outer(0), -1);
        Session.due("outer(1)", session.paths().outer(1), -1);
    }

    private static void paths() {
        Session.sentence("Character i of a node's PATH: $, and for each node on the way to it its place [N] or its name ['STRING']");
        Session session = with("{'a':[1,{'b c':2},[[]]],'':{'0':3}}");
        String[] paths = {"$", "$['a']", "$['a'][0]", "$['a'][1]", "$['a'][1]['b c']", "$['a'][2]", "$['a'][2][0]", "$['']",
                "$['']['0']"};
        for (int node = 0; node < paths.length; node++) {
            Session.due("path of " + node, session.path(node), paths[node]);
        }
        Session many = with("[" + "1,".repeat(37) + "[1]]");
        Session.due("path of 10", many.path(10), "$[9]");
        Session.due("path of 11", many.path(11), "$[10]");
        Session.due("path of 39", many.path(39), "$[37][0]");
        Session longest = with("{'abcdefgh':".repeat(6) + "1" + "}".repeat(6));
        Session.due("path of 6", longest.path(6), "$" + "['abcdefgh']".repeat(6));
        Session.due("last character", longest.paths().path(6, 72), ']');
        Session.due("behind it", longest.paths().path(6, 73), 0);
    }

    private static void pathHasQuotesAsTheyAre() {
        Session.sentence("(with ' as it is)");
        Session session = new Session().document("{\"'\":{\"a'b\":1},\"''''''''\":[2],\"']['\":3}", 6);
        String[] paths = {"$", "$[''']", "$[''']['a'b']", "$['''''''''']", "$[''''''''''][0]", "$['']['']"};
        for (int node = 0; node < paths.length; node++) {
            Session.due("path of " + node, session.path(node), paths[node]);
        }
    }

    private static void pathThatIsNotThere() {
        Session.sentence("path: 0 if there is none");
        Session session = with("[7,[8]]");
        for (int i : new int[] {1, 2, 160, -1, HIGHEST, LOWEST}) {
            Session.due("path(0, " + i + ")", session.paths().path(0, i), 0);
        }
        for (int i : new int[] {7, 8, -1, HIGHEST, LOWEST}) {
            Session.due("path(3, " + i + ")", session.paths().path(3, i), 0);
        }
        Session.due("path(3, 6)", session.paths().path(3, 6), ']');
        for (int node : new int[] {4, 39, 40, -1, HIGHEST, LOWEST}) {
            Session.due("path(" + node + ", 0)", session.paths().path(node, 0), 0);
        }
        Session.due("path(0, 0) of no document", new Session().paths().path(0, 0), 0);
    }

    private static void texts() {
        Session.sentence("Character i of a node's text: as in a document, without blanks but in strings");
        Session session = with("  { ' a ' : [ 1 , -20 , '   ' , [ ] , { } ] , '' : { 'd' : null } , 'e' : true , 'f': false }  ");
        String[] texts = {"{' a ':[1,-20,'   ',[],{}],'':{'d':null},'e':true,'f':false}", "[1,-20,'   ',[],{}]", "1", "-20",
                "'   '", "[]", "{}", "{'d':null}", "null", "true", "false"};
        for (int node = 0; node < texts.length; node++) {
            Session.due("text of " + node, session.text(node), Session.quoted(texts[node]));
        }
        String full = "[" + "1,".repeat(37) + "['abcdefgh']" + " ".repeat(72) + "]";
        Session longest = with(full);
        Session.due("text", longest.text(0), Session.quoted(full.replace(" ", "")));
        Session.due("text of a string", longest.text(39), Session.quoted("'abcdefgh'"));
    }

    private static void textThatIsNotThere() {
        Session.sentence("text: 0 if there is none");
        Session session = with(" [ 7 , [ 'a ' ] ] ");
        int[] lengths = {10, 1, 6, 4};
        for (int node = 0; node < lengths.length; node++) {
            Session.due("last character", session.paths().text(node, lengths[node] - 1) != 0 ? 1 : 0, 1);
            for (int i : new int[] {lengths[node], lengths[node] + 1, 160, -1, HIGHEST, LOWEST}) {
                Session.due("text(" + node + ", " + i + ")", session.paths().text(node, i), 0);
            }
        }
        for (int node : new int[] {4, 39, 40, -1, HIGHEST, LOWEST}) {
            Session.due("text(" + node + ", 0)", session.paths().text(node, 0), 0);
        }
        Session.due("text(0, 0) of no document", new Session().paths().text(0, 0), 0);
        Session.due("text(0, 0) of a text that isn't taken", new Session().type("[1]").paths().text(0, 0), 0);
    }
}
