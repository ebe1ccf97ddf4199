/** What the document's "Terms" say of a query: a test for each sentence that names a boundary. */
final class BoundaryQueryTest {
    public static void main(String[] args) {
        queryIsARootAndSegments();
        blanksStandInStringsAlone();
        segmentsHaveSixForms();
        nameHasOneToEightLetters();
        oneToFourSelectors();
        stringHasAtMostEightCharacters();
        placeHasOneToThreeDigits();
        placeBeginsWithNoZero();
        minusStandsNotBeforeZero();
        stretchHasTwoOrThreeParts();
        conditionIsNotEmpty();
        anyHasBarsBetween();
        allHasAmpersandsBetween();
        testHasFourForms();
        relations();
        pathBeginsWithARootOrTheNodeLookedAt();
        thingIsANumberAsInADocument();
        thingIsAString();
        thingIsAWord();
        thingIsASinglePath();
        thingIsALengthOrACount();
        fourAreInOneAnother();
        aFifthInOneAnotherIsIll();
        besideOneAnotherThereMayBeMore();
        illWhereACharacterCannotStand();
        illWhereATooLongOneBegins();
        illAtItsLengthIfItEndsTooEarly();
        illWhereAPathThatIsNotSingleBegins();
        asATestItNeedNotBeSingle();
        wrongBeforeThePathEnds();
        Session.end();
    }

    private static void well(String text, int segments) {
        new Session().query(text, segments);
    }

    private static void ill(String text, int place) {
        new Session().illQuery(text, place);
    }

    private static void queryIsARootAndSegments() {
        Session.sentence("A QUERY is $ and SEGMENTS");
        well("$", 0);
        well("$.a", 1);
        well("$[0].a", 2);
        well("$" + ".a".repeat(79), 79);
        well("$" + ".*".repeat(79), 79);
        well("$" + "..*".repeat(53), 53);
        ill("", 0);
        ill("@", 0);
        ill(".a", 0);
        ill("a", 0);
        ill("$a", 1);
        ill("$$", 1);
        ill("$.a$", 3);
        ill("$@", 1);
    }

    private static void blanksStandInStringsAlone() {
        Session.sentence("without blanks but in strings");
        String query = "$.ab..*[1,-23,3:4:-5]..[?!(@.a[0]==12||null<length(@))&&count($.*)!=true]";
        for (int at = 0; at <= query.length(); at++) {
            ill(query.substring(0, at) + " " + query.substring(at), at);
        }
        well(query, 4);
        well("$[' '][' a ']", 2);
        well("$[?' '==' a ']", 1);
        ill("$[ ' ']", 2);
        ill("$[' ' ]", 5);
        ill("$[?' ' ==1]", 6);
    }

    private static void segmentsHaveSixForms() {
        Session.sentence(".NAME, .* , [SELECTORS], ..NAME, ..* or ..[SELECTORS]");
        for (String form : new String[] {".a", ".*", "[0]", "..a", "..*", "..[0]"}) {
            well("$" + form, 1);
            well("$" + form + form + form, 3);
        }
        ill("$.", 2);
        ill("$..", 3);
        ill("$...", 3);
        ill("$...a", 3);
        ill("$.[0]", 2);
        ill("$.'a'", 2);
        ill("$.0", 2);
        ill("$..0", 3);
        ill("$*", 1);
        ill("$.**", 3);
        ill("$.*a", 3);
        ill("$.a*", 3);
        ill("$[0]a", 4);
        ill("$[0]]", 4);
        ill("$.?@", 2);
    }

    private static void nameHasOneToEightLetters() {
        Session.sentence("NAME: one to eight letters a .. z");
        for (int length = 1; length <= 8; length++) {
            well("$." + "azmnbycx".substring(0, length), 1);
            well("$.." + "azmnbycx".substring(0, length), 1);
        }
        ill("$.abcdefghi", 2);
        ill("$..abcdefghi", 3);
        ill("$.a.abcdefghi.b", 4);
        for (char c = 32; c <= 126; c++) {
            if (c >= 'a' && c <= 'z') {
                well("$." + c, 1);
                well("$.a" + c, 1);
                ill("$.abcdefgh" + c, 2);
            } else if (c != '.' && c != '*') {
                ill("$." + c, 2);
                ill("$.a" + c, c == '[' ? 4 : 3);
                ill("$.abcdefgh" + c, c == '[' ? 11 : 10);
            }
        }
    }

    private static void oneToFourSelectors() {
        Session.sentence("SELECTORS: one to four with , between them");
        ill("$[]", 2);
        ill("$..[]", 4);
        for (String selector : new String[] {"'a'", "*", "0", "1:2", "?@"}) {
            String four = selector;
            for (int count = 1; count <= 4; count++) {
                well("$[" + four + "]", 1);
                well("$..[" + four + "]", 1);
                ill("$[" + four + ",]", (count < 4 ? 3 : 2) + four.length());
                four = four + "," + selector;
            }
            int fifth = four.length() - selector.length() - 1;
            ill("$[" + four + "]", 2 + fifth);
            ill("$..[" + four + "]", 4 + fifth);
        }
        well("$['a',*,0,?@]", 1);
        ill("$[,]", 2);
        ill("$[,1]", 2);
        ill("$[1,,2]", 4);
        ill("$[1 2]", 3);
        ill("$[1;2]", 3);
        ill("$[**]", 3);
    }

    private static void stringHasAtMostEightCharacters() {
        Session.sentence("'STRING' (at most eight characters but ')");
        for (int length = 0; length <= 8; length++) {
            well("$['" + "aB0 \"\\]?".substring(0, length) + "']", 1);
        }
        ill("$['abcdefghi']", 2);
        ill("$['         ']", 2);
        ill("$['a','abcdefghi']", 6);
        ill("$[''']", 4);
        ill("$['abcdefgh'']", 12);
        ill("$[\"a\"]", 2);
        ill("$[a]", 2);
    }

    private static void placeHasOneToThreeDigits() {
        Session.sentence("N (0, or one to three digits");
        for (String place : new String[] {"0", "1", "9", "10", "99", "100", "999"}) {
            well("$[" + place + "]", 1);
        }
        ill("$[1000]", 2);
        ill("$[9999]", 2);
        ill("$[0,1000]", 4);
        ill("$[123456]", 2);
        ill("$[1/]", 3);
        ill("$[/]", 2);
        ill("$[;]", 2);
        ill("$[1.0]", 3);
    }

    private static void placeBeginsWithNoZero() {
        Session.sentence("the first not 0");
        ill("$[00]", 3);
        ill("$[01]", 3);
        ill("$[0999]", 3);
        ill("$[1,01]", 5);
        ill("$[01:]", 3);
        ill("$[:01]", 4);
        ill("$[::01]", 5);
    }

    private static void minusStandsNotBeforeZero() {
        Session.sentence("perhaps with - before, not before 0 alone)");
        for (String place : new String[] {"-1", "-10", "-999"}) {
            well("$[" + place + "]", 1);
            well("$[" + place + ":" + place + ":" + place + "]", 1);
        }
        ill("$[-0]", 3);
        ill("$[-01]", 3);
        ill("$[-]", 3);
        ill("$[--1]", 3);
        ill("$[+1]", 2);
        ill("$[-1000]", 2);
        ill("$[-0:]", 3);
        ill("$[:-0]", 4);
        ill("$[::-0]", 5);
        ill("$[1-1]", 3);
    }

    private static void stretchHasTwoOrThreeParts() {
        Session.sentence("F:T or F:T:S (each an N, or left out)");
        String[] parts = {"", "0", "7", "999", "-1", "-999"};
        for (String from : parts) {
            for (String to : parts) {
                well("$[" + from + ":" + to + "]", 1);
                for (String step : parts) {
                    String stretch = from + ":" + to + ":" + step;
                    well("$[" + stretch + "]", 1);
                    ill("$[" + stretch + ":]", 2 + stretch.length());
                }
            }
        }
        ill("$[1000:]", 2);
        ill("$[-1000::]", 2);
        ill("$[:1000]", 3);
        ill("$[1:-1000:1]", 4);
        ill("$[::1000]", 4);
        ill("$[1:2:-1000]", 6);
        ill("$[:*]", 3);
        ill("$[*:]", 3);
        ill("$['a':]", 5);
        ill("$[:'a']", 3);
        ill("$[::a]", 4);
        ill("$[:-]", 4);
    }

    private static void conditionIsNotEmpty() {
        Session.sentence("or ?ANY");
        well("$[?@]", 1);
        well("$[?@,?@]", 1);
        ill("$[?]", 3);
        ill("$[?,?@]", 3);
        ill("$[@]", 2);
        ill("$[??@]", 3);
        ill("$?@", 1);
    }

    private static void anyHasBarsBetween() {
        Session.sentence("ANY: ALL, or some with || between them");
        well("$[?@||@]", 1);
        well("$[?" + "@||".repeat(51) + "@]", 1);
        ill("$[?||@]", 3);
        ill("$[?@||]", 6);
        ill("$[?@|@]", 5);
        ill("$[?@|", 5);
        ill("$[?@|||@]", 6);
        ill("$[?@||||@]", 6);
        ill("$[?@|&@]", 5);
        ill("$[?(@||)]", 7);
    }

    private static void allHasAmpersandsBetween() {
        Session.sentence("ALL: TEST, or some with && between them");
        well("$[?@&&@]", 1);
        well("$[?" + "@&&".repeat(51) + "@]", 1);
        well("$[?@&&@||@&&@||@]", 1);
        ill("$[?&&@]", 3);
        ill("$[?@&&]", 6);
        ill("$[?@&@]", 5);
        ill("$[?@&", 5);
        ill("$[?@&&&@]", 6);
        ill("$[?@&&||@]", 6);
        ill("$[?@&|@]", 5);
        ill("$[?(@&&)]", 7);
    }

    private static void testHasFourForms() {
        Session.sentence("TEST: !TEST, (ANY), PATH, or THING R THING");
        well("$[?!@]", 1);
        well("$[?(@)]", 1);
        well("$[?@.a]", 1);
        well("$[?1==1]", 1);
        well("$[?!1==1]", 1);
        well("$[?!(@)]", 1);
        well("$[?(!@)]", 1);
        well("$[?!@.*]", 1);
        ill("$[?!]", 4);
        ill("$[?@!]", 5);
        ill("$[?()]", 4);
        ill("$[?(@]", 5);
        ill("$[?(@]]", 5);
        ill("$[?@)]", 4);
        ill("$[?(@))]", 6);
        ill("$[?(@)==1]", 6);
        ill("$[?(@)(@)]", 6);
        ill("$[?@(@)]", 4);
        ill("$[?1]", 4);
        ill("$[?'a']", 6);
        ill("$[?true]", 7);
        ill("$[?null&&@]", 7);
        ill("$[?length(@)]", 12);
        ill("$[?count(@)]", 11);
        ill("$[?!1]", 5);
        ill("$[?1==!@]", 6);
        ill("$[?1==(1)]", 6);
        ill("$[?1==]", 6);
        ill("$[?==1]", 3);
        ill("$[?1==1==1]", 7);
        ill("$[?@==1==1]", 7);
        ill("$[?@==@.a<1]", 9);
    }

    private static void relations() {
        Session.sentence("R one of == != <= >= < >");
        for (String relation : new String[] {"==", "!=", "<=", ">=", "<", ">"}) {
            well("$[?@" + relation + "1]", 1);
            well("$[?1" + relation + "@]", 1);
            int behind = 4 + relation.length();
            for (String wrong : new String[] {"=", "<", ">", "!", "==", "|", "&", " "}) {
                boolean longer = relation.length() == 1 && wrong.startsWith("=");
                if (!longer) {
                    ill("$[?@" + relation + wrong + "1]", behind);
                    ill("$[?1" + relation + wrong + "@]", behind);
                }
            }
        }
        ill("$[?@=1]", 5);
        ill("$[?1=1]", 5);
        ill("$[?@!1]", 5);
        ill("$[?1!1]", 5);
        ill("$[?@=<1]", 5);
        ill("$[?@=>1]", 5);
        ill("$[?@<==1]", 6);
        ill("$[?@<>1]", 5);
        ill("$[?@=]", 5);
        ill("$[?@~1]", 4);
    }

    private static void pathBeginsWithARootOrTheNodeLookedAt() {
        Session.sentence("PATH: @ or $, and segments");
        for (String begin : new String[] {"@", "$"}) {
            well("$[?" + begin + "]", 1);
            well("$[?" + begin + ".a..*[0,1]..[?@]]", 1);
            well("$[?count(" + begin + ")==1]", 1);
            ill("$[?" + begin + "a]", 4);
            ill("$[?" + begin + ".]", 5);
            ill("$[?" + begin + ".abcdefghi]", 5);
            ill("$[?" + begin + "[1000]]", 5);
            ill("$[?" + begin + "[]]", 5);
            ill("$[?" + begin + "@]", 4);
            ill("$[?" + begin + "$]", 4);
        }
        ill("$[?.a]", 3);
        ill("$[?a]", 3);
        ill("$[?[0]]", 3);
    }

    private static void thingIsANumberAsInADocument() {
        Session.sentence("THING: a NUMBER as in a document");
        for (String number : new String[] {"0", "1", "-1", "1000", "123456", "999999", "-999999"}) {
            well("$[?@==" + number + "]", 1);
            well("$[?" + number + "==@]", 1);
            well("$[?length(" + number + ")==1]", 1);
        }
        ill("$[?@==1000000]", 6);
        ill("$[?1000000==@]", 3);
        ill("$[?@==-1000000]", 6);
        ill("$[?-1000000==@]", 3);
        ill("$[?length(1000000)==@]", 10);
        ill("$[?@==00]", 7);
        ill("$[?@==01]", 7);
        ill("$[?00==@]", 4);
        ill("$[?@==-0]", 7);
        ill("$[?-0==@]", 4);
        ill("$[?@==-]", 7);
        ill("$[?@==+1]", 6);
        ill("$[?@==1.5]", 7);
    }

    private static void thingIsAString() {
        Session.sentence("THING: 'STRING'");
        for (String string : new String[] {"''", "'a'", "' '", "'abcdefgh'", "'\"\\\"'"}) {
            well("$[?@==" + string + "]", 1);
            well("$[?" + string + "==@]", 1);
            well("$[?length(" + string + ")==1]", 1);
        }
        ill("$[?@=='abcdefghi']", 6);
        ill("$[?'abcdefghi'==@]", 3);
        ill("$[?length('abcdefghi')==1]", 10);
        ill("$[?@=='''", 8);
        ill("$[?@==\"a\"]", 6);
        ill("$[?@==a]", 6);
    }

    private static void thingIsAWord() {
        Session.sentence("THING: true, false, null");
        for (String word : new String[] {"true", "false", "null"}) {
            well("$[?@==" + word + "]", 1);
            well("$[?" + word + "==@]", 1);
            well("$[?length(" + word + ")==1]", 1);
            ill("$[?@==" + word + "s]", 6 + word.length());
            ill("$[?" + word + "]", 3 + word.length());
            for (int length = 1; length < word.length(); length++) {
                ill("$[?@==" + word.substring(0, length) + "]", 6 + length);
            }
        }
        ill("$[?@==[]]", 6);
        ill("$[?@=={}]", 6);
        ill("$[?@==*]", 6);
    }

    private static final String[] SINGLE = {".a", ".abcdefgh", "['a']", "['']", "['abcdefgh']", "[0]", "[999]", "[-999]"};
    private static final String[] NOT_SINGLE = {".*", "[*]", "..a", "..*", "..['a']", "..[0]", "..[*]", "[0,1]", "['a','b']",
        "[0,0]", "[:]", "[0:1]", "[0:1:1]", "[::]", "[?@]", "[?@==1]"};

    private static void thingIsASinglePath() {
        Session.sentence("a PATH that is SINGLE (all its segments are .NAME, ['STRING'] or [N])");
        well("$[?@==$]", 1);
        for (String one : SINGLE) {
            for (String other : SINGLE) {
                well("$[?@" + one + other + "==$" + other + one + "]", 1);
                well("$[?length(@" + one + other + ")==1]", 1);
            }
            for (String not : NOT_SINGLE) {
                ill("$[?@" + one + not + "==1]", 3);
                ill("$[?1==@" + not + one + "]", 6);
            }
        }
    }

    private static void thingIsALengthOrACount() {
        Session.sentence("length(THING), count(PATH)");
        well("$[?length(@)==length(1)]", 1);
        well("$[?length(length(''))==length(count(@))]", 1);
        well("$[?count(@)==count($)]", 1);
        for (String not : NOT_SINGLE) {
            well("$[?count(@" + not + ")==1]", 1);
            well("$[?1==count($" + not + not + ")]", 1);
            ill("$[?length(@" + not + ")==1]", 10);
            ill("$[?1==length($" + not + ")]", 13);
        }
        ill("$[?length()==1]", 10);
        ill("$[?count()==1]", 9);
        ill("$[?length==1]", 9);
        ill("$[?count==1]", 8);
        ill("$[?length(@,@)==1]", 11);
        ill("$[?count(@,@)==1]", 10);
        ill("$[?length(@==1]", 11);
        ill("$[?count(@==1]", 10);
        ill("$[?length(!@)==1]", 10);
        ill("$[?length((@))==1]", 10);
        ill("$[?count((@))==1]", 9);
        for (String thing : new String[] {"1", "''", "true", "length(@)", "count(@)"}) {
            ill("$[?count(" + thing + ")==1]", 9);
        }
        ill("$[?lengths(@)==1]", 9);
        ill("$[?counts(@)==1]", 8);
        ill("$[?size(@)==1]", 3);
    }

    /** Builds queries in which so many of ?, ! and ( are in one another, in all ways that there are. */
    private static final class Nesting {
        private final int limit;
        private final StringBuilder text = new StringBuilder("$");
        private int built = 0;

        Nesting(int limit) {
            this.limit = limit;
        }

        int all() {
            testIn("[?", "]", 1);
            return built;
        }

        private void testIn(String open, String close, int opened) {
            int before = text.length();
            text.append(open);
            if (opened == limit) {
                look("@" + close);
                look("1<@" + close);
            } else {
                testIn("!", close, opened + 1);
                testIn("(", ")" + close, opened + 1);
                testIn("@.a[?", "]" + close, opened + 1);
                lengthOrCount("", "==1" + close, opened);
                lengthOrCount("1<", close, opened);
            }
            text.setLength(before);
        }

        private void lengthOrCount(String before, String close, int opened) {
            thingIn(before + "length(", ")" + close, opened + 1);
            pathIn(before + "count(", ")" + close, opened + 1);
        }

        private void thingIn(String open, String close, int opened) {
            int before = text.length();
            text.append(open);
            if (opened == limit) {
                look("@" + close);
            } else {
                lengthOrCount("", close, opened);
            }
            text.setLength(before);
        }

        private void pathIn(String open, String close, int opened) {
            int before = text.length();
            text.append(open);
            if (opened == limit) {
                look("@.*" + close);
            } else {
                testIn("@[?", "]" + close, opened + 1);
            }
            text.setLength(before);
        }

        private void look(String rest) {
            built++;
            if (limit <= 4) {
                well(text + rest, 1);
                return;
            }
            // The text ends with the sign that was opened last.
            int fifth = text.length() - 1;
            ill(text + rest, fifth);
            ill(text.toString(), fifth);
            ill(text + "#", fifth);
        }
    }

    private static void fourAreInOneAnother() {
        Session.sentence("Of ?, !, ( of a TEST and those of length and count at most four are in one another");
        Session.due("ways of one", new Nesting(1).all(), 2);
        new Nesting(2).all();
        new Nesting(3).all();
        Session.due("enough ways of four", new Nesting(4).all() > 100 ? 1 : 0, 1);
        well("$[?!!!@]", 1);
        well("$[?(((@)))]", 1);
        well("$[?@[?@[?@[?@]]]]", 1);
        well("$[?length(length(length(@)))==1]", 1);
        well("$[?!(count(@)==1)]", 1);
    }

    private static void aFifthInOneAnotherIsIll() {
        Session.sentence("or a fifth of those");
        Session.due("enough ways of five", new Nesting(5).all() > 400 ? 1 : 0, 1);
        ill("$[?!!!!@]", 6);
        ill("$[?((((@))))]", 6);
        ill("$[?@[?@[?@[?@[?@]]]]]", 14);
        ill("$[?length(length(length(length(@))))==1]", 30);
        ill("$[?!(!count(@)==1)]", 11);
        ill("$[?!!!@,?!!!!@]", 12);
        ill("$[?((!@)||((!@)))]", 12);
    }

    private static void besideOneAnotherThereMayBeMore() {
        Session.sentence("at most four are in one another: beside one another there may be more");
        well("$[?!@&&!@&&!@&&!@&&!@&&!@]", 1);
        well("$[?(@)||(@)||(@)||(@)||(@)||(@)]", 1);
        well("$[?@,?@,?@,?@]", 1);
        well("$[?@][?@][?@][?@][?@][?@]", 6);
        well("$[?@[?@][?@][?@][?@][?@]]", 1);
        well("$[?!(!@)&&!(!@)&&(!(@))]", 1);
        well("$[?length(length(@))<count(@)&&length(length(length(@)))==count(@[?@])]", 1);
    }

    private static void illWhereACharacterCannotStand() {
        Session.sentence("A text is ILL at the first character that can't stand there");
        String query = "$.ab..*[1,-23,3:4:-5]..[?!(@.a[0]==12||null<length(@))&&count($.*)!=true]";
        for (int at = 0; at <= query.length(); at++) {
            for (String wrong : new String[] {"#", "~", "A"}) {
                ill(query.substring(0, at) + wrong + query.substring(at), at);
                ill(query.substring(0, at) + wrong, at);
            }
        }
    }

    private static void illWhereATooLongOneBegins() {
        Session.sentence("or begins a name, string or number that is too long");
        ill("$.a.abcdefghi", 4);
        ill("$..abcdefghi#", 3);
        ill("$.abcdefgh#", 10);
        ill("$[0,'abcdefghi", 4);
        ill("$[0,'abcdefgh#", 4);
        ill("$['abcdefgh'#", 12);
        ill("$[0,1000", 4);
        ill("$[0,-1000#", 4);
        ill("$[100#", 5);
        ill("$[?@.a==1000000", 8);
        ill("$[?@.a==-1000000#", 8);
        ill("$[?@.a==100000#", 14);
        ill("$[?@.a=='abcdefghi", 8);
        ill("$[?@.abcdefghi==1]", 5);
        ill("$[?@['abcdefghi']]", 5);
        ill("$[?@[1000]]", 5);
    }

    private static void illAtItsLengthIfItEndsTooEarly() {
        Session.sentence("at its length, if it ends too early");
        // No beginning of this one is a query, but for $ alone.
        String query = "$[1,-2,3:4:-5,?!(@.a['x y']>=12||null!='z'&&true<@)&&length(@)<=count($..*[:])]";
        for (int length = 0; length < query.length(); length++) {
            if (length != 1) {
                ill(query.substring(0, length), length);
            }
        }
        well(query, 1);
        ill("$.a.", 4);
        ill("$.a..", 5);
        ill("$.a[", 4);
    }

    private static void illWhereAPathThatIsNotSingleBegins() {
        Session.sentence("a PATH that isn't single where it must be: at its beginning");
        for (String not : NOT_SINGLE) {
            for (String begin : new String[] {"@", "$", "@.a", "$[0]"}) {
                String path = begin + not;
                well("$[?" + path + "]", 1);
                well("$[?!" + path + "&&" + path + "]", 1);
                for (String relation : new String[] {"==", "!=", "<=", ">=", "<", ">"}) {
                    ill("$[?" + path + relation + "1]", 3);
                    ill("$[?@&&!" + path + relation + "@]", 7);
                    ill("$[?1" + relation + path + "]", 4 + relation.length());
                }
                ill("$[?length(" + path + ")==1]", 10);
                ill("$[?@[?1==" + path + "]]", 9);
            }
        }
        ill("$[?@.*==@..a]", 3);
        ill("$[?@.a==@..a]", 8);
    }

    private static void asATestItNeedNotBeSingle() {
        Session.sentence("a PATH that isn't single where it must be: as a TEST, and in count, it need not be");
        for (String not : NOT_SINGLE) {
            int end = 4 + not.length();
            ill("$[?@" + not, end);
            ill("$[?@" + not + "#", end);
            ill("$[?@" + not + ")", end);
            ill("$[?@" + not + "&", end + 1);
            ill("$[?@" + not + "||1]", end + 3);
            ill("$[?1==count(@" + not, end + 9);
            ill("$[?1==count(@" + not + "#", end + 9);
            ill("$[?1==count(@" + not + "==1)]", end + 9);
            // What begins an R can stand behind a THING alone, even if the R never ends.
            for (String begun : new String[] {"=", "!", "=1]", "!]", "<", ">"}) {
                ill("$[?@" + not + begun, 3);
            }
        }
    }

    private static void wrongBeforeThePathEnds() {
        Session.sentence("if there is nothing wrong before its end");
        for (String not : NOT_SINGLE) {
            int end = 7 + not.length();
            ill("$[?1==@" + not + ".]", end + 1);
            ill("$[?1==@" + not + ".abcdefghi]", end + 1);
            ill("$[?1==@" + not + "[1000]]", end + 1);
            ill("$[?1==@" + not + "['abcdefghi']]", end + 1);
            ill("$[?1==@" + not + "[0#]]", end + 2);
            ill("$[?1==@" + not + "[", end + 1);
            ill("$[?@" + not + ".==1]", end - 2);
            ill("$[?length(@" + not + "[01])==1]", end + 6);
            // What is wrong behind its end comes too late.
            ill("$[?1==@" + not + "#", 6);
            ill("$[?1==@" + not, 6);
            ill("$[?@" + not + "==#", 3);
            ill("$[?@" + not + "==1000000]", 3);
            ill("$[?@" + not + "==", 3);
            ill("$[?length(@" + not + "#", 10);
        }
        ill("$[?1==@[?@.*==2].*]", 9);
        ill("$[?length(length(length(@[?@])))==1]", 26);
    }
}
