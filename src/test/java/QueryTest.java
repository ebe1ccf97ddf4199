/** Promise 4: query, and the places at which a text is no query. */
final class QueryTest {
    public static void main(String[] args) {
        segments();
        conditions();
        illSegments();
        illSelectors();
        illConditions();
        illThings();
        nesting();
        singlePaths();
        illLeavesAllAsItWas();
        everyBeginningOfAQueryEndsTooEarly();
        Session.end();
    }

    private static void segments() {
        new Session().query("$", 0);
        new Session().query("$.a", 1);
        new Session().query("$.abcdefgh.z", 2);
        new Session().query("$.*..*..a", 3);
        new Session().query("$['']['12345678'][' \"\\ ']", 3);
        new Session().query("$[0][-1][999][-999]", 4);
        new Session().query("$[1:2][:2][1:][:][::][1::][:2:][::3][1:2:3][-1:-2:-3][0:0:0]", 11);
        new Session().query("$[*,'a',0,1:2]..[*,*,*,*]", 2);
        new Session().query("$" + ".a".repeat(79), 79);
        new Session().query("$" + "..a".repeat(53), 53);
    }

    private static void conditions() {
        new Session().query("$[?@]", 1);
        new Session().query("$[?$]", 1);
        new Session().query("$[?@.a.b.c]", 1);
        new Session().query("$[?@..a[*][?@.b]]..c", 2);
        new Session().query("$[?@==1,?@==2,?!@,?(@)]", 1);
        new Session().query("$[?1==1&&'a'!='b'||true<=false&&null>=@||@<$||@>-123456]", 1);
        new Session().query("$[?length(@)==count(@.*)&&length('')<length(length(1))]", 1);
        new Session().query("$[?!@.a==1]", 1);
        new Session().query("$[?(@||@)&&(@&&@)]", 1);
        new Session().query("$[?@['a'][0]['b']==$.a[-1]]", 1);
        new Session().query("$[?@=='12345678']", 1);
    }

    private static void illSegments() {
        new Session().illQuery("", 0);
        new Session().illQuery("a", 0);
        new Session().illQuery("@", 0);
        new Session().illQuery(" $", 0);
        new Session().illQuery("$ ", 1);
        new Session().illQuery("$a", 1);
        new Session().illQuery("$$", 1);
        new Session().illQuery("$.", 2);
        new Session().illQuery("$..", 3);
        new Session().illQuery("$...a", 3);
        new Session().illQuery("$.[0]", 2);
        new Session().illQuery("$.A", 2);
        new Session().illQuery("$.1", 2);
        new Session().illQuery("$.a1", 3);
        new Session().illQuery("$.a .b", 3);
        new Session().illQuery("$.abcdefghi", 2);
        new Session().illQuery("$.a..abcdefghi", 5);
        new Session().illQuery("$.abcdefgh1", 10);
        new Session().illQuery("$.**", 3);
        new Session().illQuery("$.'a'", 2);
    }

    private static void illSelectors() {
        new Session().illQuery("$[", 2);
        new Session().illQuery("$[]", 2);
        new Session().illQuery("$[1", 3);
        new Session().illQuery("$[1,", 4);
        new Session().illQuery("$[1,]", 4);
        new Session().illQuery("$[,1]", 2);
        new Session().illQuery("$[ 1]", 2);
        new Session().illQuery("$[1 ]", 3);
        new Session().illQuery("$[1,2,3,4,5]", 9);
        new Session().illQuery("$[1,2,3,4", 9);
        new Session().illQuery("$[a]", 2);
        new Session().illQuery("$[\"a\"]", 2);
        new Session().illQuery("$['a", 4);
        new Session().illQuery("$['12345678", 11);
        new Session().illQuery("$['123456789']", 2);
        new Session().illQuery("$[0,'123456789", 4);
        new Session().illQuery("$[01]", 3);
        new Session().illQuery("$[-0]", 3);
        new Session().illQuery("$[-]", 3);
        new Session().illQuery("$[1234]", 2);
        new Session().illQuery("$[-1234]", 2);
        new Session().illQuery("$[1:-1234]", 4);
        new Session().illQuery("$[1:2:1234]", 6);
        new Session().illQuery("$[1:2:3:4]", 7);
        new Session().illQuery("$[1:a]", 4);
        new Session().illQuery("$[::-]", 5);
        new Session().illQuery("$[**]", 3);
        new Session().illQuery("$[*:1]", 3);
    }

    private static void illConditions() {
        new Session().illQuery("$[?", 3);
        new Session().illQuery("$[?]", 3);
        new Session().illQuery("$[? @]", 3);
        new Session().illQuery("$[?@", 4);
        new Session().illQuery("$[?@&@]", 5);
        new Session().illQuery("$[?@&&]", 6);
        new Session().illQuery("$[?@|@]", 5);
        new Session().illQuery("$[?@||", 6);
        new Session().illQuery("$[?@@]", 4);
        new Session().illQuery("$[?(@]", 5);
        new Session().illQuery("$[?@)]", 4);
        new Session().illQuery("$[?()]", 4);
        new Session().illQuery("$[?(@)==1]", 6);
        new Session().illQuery("$[?!]", 4);
        new Session().illQuery("$[?@=1]", 5);
        new Session().illQuery("$[?@!1]", 5);
        new Session().illQuery("$[?@===1]", 6);
        new Session().illQuery("$[?@==]", 6);
        new Session().illQuery("$[?@==1==1]", 7);
        new Session().illQuery("$[?@<>1]", 5);
        new Session().illQuery("$[?@=<1]", 5);
        new Session().illQuery("$[?@==!@]", 6);
        new Session().illQuery("$[?@==(1)]", 6);
        new Session().illQuery("$[?@ ==1]", 4);
        new Session().illQuery("$[?@.abcdefghi]", 5);
        new Session().illQuery("$[?@[?@.b.]]", 10);
    }

    private static void illThings() {
        new Session().illQuery("$[?1]", 4);
        new Session().illQuery("$[?true]", 7);
        new Session().illQuery("$[?'a'&&@]", 6);
        new Session().illQuery("$[?length(@)]", 12);
        new Session().illQuery("$[?count(@)||@]", 11);
        new Session().illQuery("$[?@==tru]", 9);
        new Session().illQuery("$[?@==nil]", 7);
        new Session().illQuery("$[?@==True]", 6);
        new Session().illQuery("$[?@==lengt(@)]", 11);
        new Session().illQuery("$[?@==length[@]]", 12);
        new Session().illQuery("$[?@==length()]", 13);
        new Session().illQuery("$[?@==length(@", 14);
        new Session().illQuery("$[?@==length(@==1)]", 14);
        new Session().illQuery("$[?@==count()]", 12);
        new Session().illQuery("$[?@==count(1)]", 12);
        new Session().illQuery("$[?@==count(length(@))]", 12);
        new Session().illQuery("$[?@==1234567]", 6);
        new Session().illQuery("$[?@==-1234567]", 6);
        new Session().illQuery("$[?@==123456.a]", 12);
        new Session().illQuery("$[?@==01]", 7);
        new Session().illQuery("$[?@==-0]", 7);
        new Session().illQuery("$[?'123456789'==@]", 3);
        new Session().illQuery("$[?@==\"a\"]", 6);
        new Session().illQuery("$[?@==[1]]", 6);
    }

    private static void nesting() {
        new Session().query("$[?!!!@]", 1);
        new Session().query("$[?(((@)))]", 1);
        new Session().query("$[?!(!@)||!(!@)&&((!@))]", 1);
        new Session().query("$[?@[?@[?@[?@]]]]", 1);
        new Session().query("$[?!!length(@)==1]", 1);
        new Session().query("$[?length(length(length(@)))==1]", 1);
        new Session().query("$[?!!count(@.*)==count(@)]", 1);
        new Session().query("$[?!count(@[?@])==1]", 1);
        new Session().query("$[?!!!@==1]", 1);
        new Session().illQuery("$[?!!!!@]", 6);
        new Session().illQuery("$[?((((@))))]", 6);
        new Session().illQuery("$[?!(!(!@))]", 6);
        new Session().illQuery("$[?!(!@)||!(!(@))]", 13);
        new Session().illQuery("$[?@[?@[?@[?@[?@]]]]]", 14);
        new Session().illQuery("$[?!!!length(@)==1]", 12);
        new Session().illQuery("$[?!!!lengthy", 12);
        new Session().illQuery("$[?length(length(length(length(@))))==1]", 30);
        new Session().illQuery("$[?!!!1==count(@)]", 14);
        new Session().illQuery("$[?!!count(@[?@])==1]", 13);
        new Session().illQuery("$[?!!!(", 6);
    }

    private static void singlePaths() {
        for (String path : new String[] {"@.*", "@[*]", "@..a", "@..[0]", "@[0,1]", "@[1:2]", "@[?@]", "@.a.*.b",
                "$.*", "@['a','b']", "@[0][:]"}) {
            int length = path.length();
            new Session().query("$[?" + path + "]", 1);
            new Session().query("$[?count(" + path + ")==1]", 1);
            new Session().illQuery("$[?" + path + "==1]", 3);
            new Session().illQuery("$[?" + path + "<", 3);
            new Session().illQuery("$[?1==" + path + "]", 6);
            new Session().illQuery("$[?1==" + path, 6);
            new Session().illQuery("$[?1==" + path + "x", 6);
            new Session().illQuery("$[?length(" + path + ")==1]", 10);
            new Session().illQuery("$[?1==" + path + ".]", 7 + length);
            new Session().illQuery("$[?1==" + path + ".abcdefghi", 7 + length);
            new Session().illQuery("$[?" + path, 3 + length);
            new Session().illQuery("$[?@==1&&!" + path + "!=1]", 10);
        }
        new Session().illQuery("$[?1==@[?@.*==2].a]", 9);
        new Session().illQuery("$[?@[?length(@.*)==2]==1]", 13);
    }

    private static void illLeavesAllAsItWas() {
        Session session = new Session().document("[1,2,[3]]", 5).query("$[2]", 1).findsAgain("$[2]", 3);
        session.illQuery("$[0", 3);
        Session.due("found", session.foundNodes(), "[3]");
        session.findsAgain("$[2]", 3);
        session.query("$[0][0]", 2);
        Session.due("found", session.foundNodes(), "[3]");
        session.findsAgain("$[0][0]");
        session.query("$..*", 1);
        Session.due("found", session.foundNodes(), "[]");
        session.illQuery("", 0).findsAgain("$..*", 1, 2, 3, 4);
    }

    /** Whatever ends within a query is ill just at its length, or a query itself. */
    private static void everyBeginningOfAQueryEndsTooEarly() {
        for (String query : new String[] {"$.abc..*[1,-2,3:4:-5,'x y']..[?@.a]",
                "$[?length(@.a)>=12&&!(count($..*)!=3||@['b'][-1]<'z'),?true==false,?null<=@[0]]"}) {
            for (int length = 0; length < query.length(); length++) {
                Session session = new Session().type(query.substring(0, length));
                if (session.takeQuery() == Session.ILL) {
                    Session.due("place of " + query.substring(0, length), session.paths().place(), length);
                }
            }
        }
    }
}
