import java.util.ArrayList;
import java.util.List;

/** What the document's "Terms" say of a text and of a document: a test for each sentence that names a boundary. */
final class BoundaryDocumentTest {
    public static void main(String[] args) {
        textHasAtMost160Characters();
        textHasCodes32To126();
        documentIsOneValue();
        blanksStandRoundEachPart();
        blanksStandInNoPart();
        words();
        numberHasOneToSixDigits();
        numberBeginsWithNoZero();
        minusStandsNotBeforeZero();
        stringHasAtMostEightCharacters();
        stringHasNoQuoteAndNoBackslash();
        arrayHasCommasBetweenValues();
        objectHasCommasBetweenMembers();
        memberHasNameColonAndValue();
        memberNameIsAString();
        noTwoNamesAreTheSame();
        atMostSixAreInOneAnother();
        atMost40ValuesInAll();
        nodesAreNumberedAsTheyBegin();
        childrenAreInTheirOrder();
        illWhereACharacterCannotStand();
        illWhereATooLongOneBegins();
        illWhereANameIsThereAlready();
        illWhereASeventhBegins();
        illWhereA41stBegins();
        illAtItsLengthIfItEndsTooEarly();
        Session.end();
    }

    private static void well(String text, int nodes) {
        new Session().document(Session.quoted(text), nodes);
    }

    private static void ill(String text, int place) {
        new Session().illDocument(Session.quoted(text), place);
    }

    private static void textHasAtMost160Characters() {
        Session.sentence("A TEXT has at most 160 characters");
        well(" ".repeat(157) + "[1]", 2);
        new Session().query("$" + ".a".repeat(78) + ".bc", 79);
        Session document = new Session().type(" ".repeat(158) + "[1");
        Session.due("type of a 161st", document.paths().type(']') ? 1 : 0, 0);
        document.illDocument("", 160);
        Session query = new Session().type("$" + ".a".repeat(79) + ".");
        Session.due("type of a 161st", query.paths().type('a') ? 1 : 0, 0);
        query.illQuery("", 160);
    }

    private static void textHasCodes32To126() {
        Session.sentence("with codes 32 .. 126; it is taken as a document or as a query");
        for (char c = 32; c <= 126; c++) {
            if (c != '"' && c != '\\') {
                Session session = new Session().document("\"" + c + "\"", 1);
                Session.due("character", session.paths().character(0, 0), c);
            }
            if (c != '\'') {
                new Session().query("$['" + c + "']", 1);
            }
        }
    }

    private static void documentIsOneValue() {
        Session.sentence("A DOCUMENT is one VALUE");
        ill("", 0);
        ill(" ", 1);
        well("1", 1);
        ill("1,2", 1);
        ill("[] []", 3);
        ill("{}{}", 2);
        ill("null 1", 5);
    }

    private static final String[] PARTS = {"{", "'a b'", ":", "[", "12", ",", "-345", ",", "{", "}", ",", "[", "]", "]", ",",
            "''", ":", "{", "'c'", ":", "null", ",", "'d'", ":", "true", "}", ",", "'e'", ":", "' '", ",", "'f'", ":", "false", "}"};

    private static void blanksStandRoundEachPart() {
        Session.sentence("blanks may stand before and behind each value, name and sign of it");
        String plain = Session.quoted(String.join("", PARTS));
        for (int gap = 0; gap <= PARTS.length; gap++) {
            for (String blanks : new String[] {" ", "   "}) {
                Session session = new Session().document(joined(gap, blanks), 11);
                Session.due("text", session.text(0), plain);
            }
        }
        Session everywhere = new Session().document(Session.quoted(" " + String.join(" ", PARTS) + " "), 11);
        Session.due("text", everywhere.text(0), plain);
        new Session().document(plain, 11);
    }

    private static String joined(int gap, String blanks) {
        List<String> parts = new ArrayList<>(List.of(PARTS));
        parts.add(gap, blanks);
        return Session.quoted(String.join("", parts));
    }

    private static void blanksStandInNoPart() {
        Session.sentence("blanks may stand before and behind each value, name and sign of it: not inside");
        for (String word : new String[] {"null", "true", "false"}) {
            for (int at = 1; at < word.length(); at++) {
                ill(word.substring(0, at) + " " + word.substring(at), at);
            }
        }
        ill("- 1", 1);
        ill("1 2", 2);
        ill("[-1 2]", 4);
        Session string = new Session().document("\" a \"", 1);
        Session.due("size", string.paths().size(0), 3);
    }

    private static void words() {
        Session.sentence("null, true, false");
        well("null", 1);
        well("true", 1);
        well("false", 1);
        ill("Null", 0);
        ill("tRue", 1);
        ill("falsE", 4);
        ill("nulls", 4);
        ill("truetrue", 4);
    }

    private static void number(String text, int number) {
        Session session = new Session().document(text, 1);
        Session.due("kind of " + text, session.paths().kind(0), 3);
        Session.due("size of " + text, session.paths().size(0), number);
    }

    private static void numberHasOneToSixDigits() {
        Session.sentence("a NUMBER: 0, or one to six digits");
        number("0", 0);
        number("1", 1);
        number("9", 9);
        number("10", 10);
        number("12345", 12345);
        number("100000", 100000);
        number("999999", 999999);
        ill("1000000", 0);
        ill("9999999", 0);
        ill("12345678901234567890", 0);
        ill("1/", 1);
        ill("1:", 1);
        ill("/", 0);
        ill(":", 0);
        ill("1.0", 1);
        ill("1e1", 1);
    }

    private static void numberBeginsWithNoZero() {
        Session.sentence("the first not 0");
        ill("00", 1);
        ill("01", 1);
        ill("0999999", 1);
        ill("[0,00]", 4);
    }

    private static void minusStandsNotBeforeZero() {
        Session.sentence("perhaps with - before (not before 0 alone)");
        number("-1", -1);
        number("-10", -10);
        number("-999999", -999999);
        ill("-0", 1);
        ill("-01", 1);
        ill("[-0]", 2);
        ill("-", 1);
        ill("--1", 1);
        ill("-a", 1);
        ill("1-", 1);
        ill("0-1", 1);
        ill("+1", 0);
        ill("-1000000", 0);
    }

    private static void stringHasAtMostEightCharacters() {
        Session.sentence("a STRING: at most eight characters");
        for (int length = 0; length <= 8; length++) {
            String string = "abcdefgh".substring(0, length);
            Session session = new Session().document("\"" + string + "\"", 1);
            Session.due("size", session.paths().size(0), length);
            Session.due("string", session.string(0), string);
        }
        well("'        '", 1);
        ill("'abcdefghi'", 0);
        ill("'         '", 0);
        ill(" ['abcdefgh','abcdefghi']", 13);
    }

    private static void stringHasNoQuoteAndNoBackslash() {
        Session.sentence("characters but \" and \\ between two \"");
        ill("\\", 0);
        ill("'\\'", 1);
        ill("'\\n'", 1);
        ill("'abcdefg\\'", 8);
        ill("'abcdefgh\\'", 9);
        ill("'a''", 3);
        ill("''a'", 2);
        ill("'a", 2);
        ill("a'", 0);
        Session other = new Session().document("\"'/[]{}:\"", 1);
        Session.due("string", other.string(0), "'/[]{}:");
    }

    private static void arrayHasCommasBetweenValues() {
        Session.sentence("an ARRAY: [ values with , between them ]");
        well("[]", 1);
        well("[1]", 2);
        well("[1,2]", 3);
        ill("[,]", 1);
        ill("[,1]", 1);
        ill("[1,]", 3);
        ill("[1,,2]", 3);
        ill("[1 2]", 3);
        ill("[1;2]", 2);
        ill("[1}", 2);
        ill("[1:2]", 2);
        ill("['a':2]", 4);
        ill("]", 0);
        ill("[]]", 2);
    }

    private static void objectHasCommasBetweenMembers() {
        Session.sentence("an OBJECT: { members with , between them }");
        well("{}", 1);
        well("{'a':1}", 2);
        well("{'a':1,'b':2}", 3);
        ill("{,}", 1);
        ill("{,'a':1}", 1);
        ill("{'a':1,}", 7);
        ill("{'a':1,,'b':2}", 7);
        ill("{'a':1 'b':2}", 7);
        ill("{'a':1]", 6);
        ill("}", 0);
        ill("{}}", 2);
    }

    private static void memberHasNameColonAndValue() {
        Session.sentence("a member being a name (as a STRING), : and a value");
        ill("{'a'}", 4);
        ill("{'a',1}", 4);
        ill("{'a' 1}", 5);
        ill("{'a'=1}", 4);
        ill("{'a':}", 5);
        ill("{'a':,'b':1}", 5);
        ill("{'a'::1}", 5);
        ill("{'a':1:2}", 6);
        ill("{:1}", 1);
        ill("{1}", 1);
    }

    private static void memberNameIsAString() {
        Session.sentence("a name (as a STRING)");
        well("{'':1}", 2);
        well("{' ':1}", 2);
        well("{'abcdefgh':1}", 2);
        ill("{'abcdefghi':1}", 1);
        ill("{'a':1,'abcdefghi':1}", 7);
        ill("{'a\\':1}", 3);
        ill("{'abcdefgh\\':1}", 10);
        ill("{a:1}", 1);
        ill("{1:1}", 1);
        ill("{null:1}", 1);
        ill("{[]:1}", 1);
    }

    private static void noTwoNamesAreTheSame() {
        Session.sentence("no two names of an object are the same");
        ill("{'a':1,'a':2}", 7);
        ill("{'a':1,'b':2,'c':3,'b':4}", 19);
        ill("{'':1,'':2}", 6);
        ill("{'abcdefgh':1,'abcdefgh':1}", 14);
        ill("{'a':{'b':1,'c':2},'a':1}", 19);
        ill("[{'a':1},{'b':1,'b':1}]", 16);
        well("{'a':1,'A':2,' a':3,'a ':4,'aa':5,'':6,' ':7}", 8);
        well("{'abcdefgh':1,'abcdefgi':2,'abcdefg':3}", 4);
        well("{'a':{'a':{'a':1}},'b':{'a':1}}", 6);
        well("[{'a':1},{'a':1},{'a':'a'}]", 7);
        Session again = new Session().document(Session.quoted("{'a':1}"), 2);
        again.document(Session.quoted("{'a':1}"), 2);
    }

    private static void atMostSixAreInOneAnother() {
        Session.sentence("At most six arrays and objects are in one another");
        well("[[[[[[]]]]]]", 6);
        well("[[[[[[1,'a',null]]]]]]", 9);
        well("{'':{'':{'':{'':{'':{}}}}}}", 6);
        well("[{'a':[{'a':[{'a':1}]}]}]", 7);
        ill("[[[[[[[]]]]]]]", 6);
        ill("[[[[[[{}]]]]]]", 6);
        ill("{'':{'':{'':{'':{'':{'':{}}}}}}}", 24);
        ill("{'':{'':{'':{'':{'':{'':[]}}}}}}", 24);
        well("[[],[],[],{},{},{},[],[]]", 9);
        well("[[[[[[]]]]],[[[[[]]]]],[[[[{}]]]]]", 16);
        ill("[[[[[[]]]]],[[[[[[]]]]]]]", 17);
        new Session().illDocument("[[[[[[[", 6).document("[[[[[[]]]]]]", 6);
    }

    private static void atMost40ValuesInAll() {
        Session.sentence("and at most 40 values in all");
        well("[" + "1,".repeat(38) + "1]", 40);
        ill("[" + "1,".repeat(39) + "1]", 79);
        well("[" + "[1],".repeat(18) + "[1],1]", 40);
        ill("[" + "[1],".repeat(19) + "[1]]", 78);
        ill("[" + "[1],".repeat(19) + "1,1]", 79);
        well("[" + "1,".repeat(37) + "{'a':1}]", 40);
        ill("[" + "1,".repeat(37) + "{'a':1,'b':2}]", 86);
        ill("[" + "1,".repeat(38) + "{'a':1}]", 82);
        ill("[" + "1,".repeat(38) + "[1]]", 78);
        well("[" + "1,".repeat(38) + "[]]", 40);
        Session again = new Session().illDocument("[" + "1,".repeat(39) + "1]", 79);
        again.document("[" + "1,".repeat(38) + "1]", 40);
    }

    private static void nodesAreNumberedAsTheyBegin() {
        Session.sentence("The values are NODES, numbered from 0 on as they begin in the text");
        Session session = new Session().document(Session.quoted("[[1,{'a':[2],'b':3}],{},[[]],4]"), 11);
        String[] texts = {"[[1,{'a':[2],'b':3}],{},[[]],4]", "[1,{'a':[2],'b':3}]", "1", "{'a':[2],'b':3}", "[2]", "2", "3",
                "{}", "[[]]", "[]", "4"};
        for (int node = 0; node < texts.length; node++) {
            Session.due("text of " + node, session.text(node), Session.quoted(texts[node]));
        }
        Session.due("kind(-1)", session.paths().kind(-1), -1);
        Session.due("kind(11)", session.paths().kind(11), -1);
    }

    private static void childrenAreInTheirOrder() {
        Session.sentence("The CHILDREN of an array are its values, those of an object the values of its members, in their order");
        new Session().document("[7,[8],9]", 5).finds("$.*", 1, 2, 4);
        new Session().document(Session.quoted("{'z':7,'a':[8],'m':9}"), 5).finds("$.*", 1, 2, 4);
        new Session().document("[]", 1).finds("$.*");
        new Session().document("{}", 1).finds("$.*");
        new Session().document(Session.quoted("'abc'"), 1).finds("$.*");
    }

    private static void illWhereACharacterCannotStand() {
        Session.sentence("A text is ILL at the first character that can't stand there");
        String text = "[1,{'a':true,'b':[-2,'c']},null]";
        for (int at = 0; at <= text.length(); at++) {
            boolean inString = at == 5 || at == 6 || at == 14 || at == 15 || at == 22 || at == 23;
            String wrong = text.substring(0, at) + "#" + text.substring(at);
            if (inString) {
                well(wrong, 8);
            } else {
                ill(wrong, at);
                ill(wrong + "####", at);
            }
        }
    }

    private static void illWhereATooLongOneBegins() {
        Session.sentence("or begins a name, string or number that is too long");
        ill("{'abcdefghi':1}", 1);
        ill("{ 'a':1, 'abcdefghi", 9);
        ill("[ 'abcdefghi']", 2);
        ill("[1,'abcdefghi", 3);
        ill("['abcdefghi\\", 1);
        ill("[ 1234567]", 2);
        ill("[1,1234567", 3);
        ill("[1,-1234567#", 3);
        ill("[123456#", 7);
        ill("['abcdefgh#", 1);
        ill("['abcdefgh'#", 11);
    }

    private static void illWhereANameIsThereAlready() {
        Session.sentence("a name that is there already");
        ill("{'a':1,'a'", 7);
        ill("{'a':1,'a'#", 7);
        ill("{'a':1 ,  'a' : 2 }", 10);
        ill("{'a':1,'a", 9);
        ill("{'a':1,'a#':#", 12);
        ill("{'a':{'a':1,'a':2}}", 12);
    }

    private static void illWhereASeventhBegins() {
        Session.sentence("a seventh array or object");
        ill("[[[[[[[", 6);
        ill("[[[[[[{", 6);
        ill("[[[[[[ 1 , [ ] ]]]]]]", 11);
        ill("[[[[[{ 'abc' : {", 15);
        ill("[[[[[[#", 6);
    }

    private static void illWhereA41stBegins() {
        Session.sentence("a 41st value");
        for (String value : new String[] {"1", "'a'", "null", "[]", "{}", "1234567", "'abcdefghi'", "x", "]", ""}) {
            ill("[" + "1,".repeat(39) + value, 79);
            ill("[" + "1,".repeat(39) + "  " + value, 81);
        }
        ill("[" + "1,".repeat(38) + "{ 'abcdefghi':1}", 79);
        ill("[" + "1,".repeat(38) + "1#", 78);
    }

    private static void illAtItsLengthIfItEndsTooEarly() {
        Session.sentence("at its length, if it ends too early");
        String text = " {'a b':[12,-3,'x',null, true,false,{ } ] ,'c':[[ ]]}";
        for (int length = 0; length < text.length(); length++) {
            ill(text.substring(0, length), length);
        }
        well(text, 11);
        for (String word : new String[] {"null", "true", "false", "-1", "'a'"}) {
            for (int length = 0; length < word.length(); length++) {
                ill(word.substring(0, length), length);
            }
        }
    }
}
