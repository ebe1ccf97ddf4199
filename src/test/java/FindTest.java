/** Promise 6: find. */
final class FindTest {
    public static void main(String[] args) {
        state();
        names();
        places();
        stretchesUpwards();
        stretchesDownwards();
        below();
        order();
        pathsAsTests();
        signs();
        equality();
        less();
        nothing();
        lengthAndCount();
        conditionsInConditions();
        atMost300Found();
        atMostAMillionSteps();
        allPartsAreLookedAt();
        Session.end();
    }

    /** Queries on one document, each with an object of its own. */
    private record On(String document) {
        Session read() {
            Session session = new Session().type(document);
            Session.due("document " + document, session.takeDocument() > 0 ? 1 : 0, 1);
            return session;
        }

        On finds(String query, int... nodes) {
            read().finds(query, nodes);
            return this;
        }

        On isTooMuch(String query) {
            tooMuch(read(), query);
            return this;
        }
    }

    private static On on(String document) {
        return new On(document);
    }

    private static void state() {
        Session.due("find with nothing", new Session().tryFind(), Session.NO_STATE);
        Session.due("find without a query", new Session().document("1", 1).tryFind(), Session.NO_STATE);
        Session.due("find without a document", new Session().query("$", 0).tryFind(), Session.NO_STATE);
        Session ill = new Session().illDocument("[1", 2).query("$", 0);
        Session.due("find with an ill document", ill.tryFind(), Session.NO_STATE);
        ill.document("[1]", 2).findsAgain("$", 0).findsAgain("$", 0);
        Session illQuery = new Session().document("1", 1).illQuery("$.", 2);
        Session.due("find with an ill query", illQuery.tryFind(), Session.NO_STATE);
    }

    private static void names() {
        on("{\"a\":1,\"b c\":{\"a\":2},\"\":3}").finds("$.a", 1).finds("$['a']", 1).finds("$['b c']", 2)
                .finds("$['b c'].a", 3).finds("$['']", 4).finds("$.x").finds("$.a.a").finds("$.*", 1, 2, 4)
                .finds("$[*]", 1, 2, 4).finds("$[0]").finds("$[:]").finds("$['a','','a']", 1, 4, 1);
        on("[{\"a\":1}]").finds("$.a").finds("$['a']").finds("$[0].a", 2);
        on("\"a\"").finds("$.a").finds("$.*").finds("$[0]").finds("$[?@]").finds("$[:]");
    }

    private static void places() {
        on("[5,6,7]").finds("$[0]", 1).finds("$[2]", 3).finds("$[3]").finds("$[-1]", 3).finds("$[-3]", 1)
                .finds("$[-4]").finds("$[999]").finds("$[-999]").finds("$[2,0,-2]", 3, 1, 2);
        on("[]").finds("$[0]").finds("$[-1]").finds("$[*]");
        on("[[1,2],[3]]").finds("$[*][1]", 3).finds("$[1][-1]", 5).finds("$[0][0][0]");
    }

    private static void stretchesUpwards() {
        on("[0,1,2,3,4,5]").finds("$[:]", 1, 2, 3, 4, 5, 6).finds("$[::]", 1, 2, 3, 4, 5, 6)
                .finds("$[2:4]", 3, 4).finds("$[4:]", 5, 6).finds("$[:2]", 1, 2).finds("$[4:2]").finds("$[2:2]")
                .finds("$[-2:]", 5, 6).finds("$[:-4]", 1, 2).finds("$[-4:-2]", 3, 4).finds("$[-9:2]", 1, 2)
                .finds("$[:-9]").finds("$[3:999]", 4, 5, 6).finds("$[9:]").finds("$[6:]").finds("$[5:]", 6)
                .finds("$[::2]", 1, 3, 5).finds("$[1::2]", 2, 4, 6).finds("$[-9::4]", 1, 5).finds("$[1:5:3]", 2, 5)
                .finds("$[::999]", 1).finds("$[::0]").finds("$[0:5:0]").finds("$[0:1:1]", 1);
        on("[]").finds("$[:]").finds("$[0:1]").finds("$[::-1]").finds("$[-1:]").finds("$[-1::-1]");
    }

    private static void stretchesDownwards() {
        on("[0,1,2,3,4,5]").finds("$[::-1]", 6, 5, 4, 3, 2, 1).finds("$[::-4]", 6, 2).finds("$[4:1:-1]", 5, 4, 3)
                .finds("$[4:1:-2]", 5, 3).finds("$[:3:-1]", 6, 5).finds("$[3::-1]", 4, 3, 2, 1)
                .finds("$[-2:-4:-1]", 5, 4).finds("$[1:4:-1]").finds("$[3:3:-1]").finds("$[0::-1]", 1)
                .finds("$[9::-1]", 6, 5, 4, 3, 2, 1).finds("$[9::-3]", 4, 1).finds("$[8::-3]", 6, 3)
                .finds("$[6::-1]", 6, 5, 4, 3, 2, 1).finds("$[6::-2]", 5, 3, 1).finds("$[999::-500]")
                .finds("$[-9::-1]").finds("$[:-9:-3]", 6, 3).finds("$[:-1:-1]").finds("$[9:-1:-1]")
                .finds("$[:0:-1]", 6, 5, 4, 3, 2).finds("$[:-6:-1]", 6, 5, 4, 3, 2).finds("$[:-7:-5]", 6, 1)
                .finds("$[::-999]", 6).finds("$[7:9:-1]");
    }

    private static void below() {
        on("{\"a\":[1,{\"a\":2}],\"b\":{\"a\":{\"a\":3}}}").finds("$..a", 1, 4, 6, 7).finds("$..*", 1, 5, 2, 3, 4, 6, 7).finds("$..[0]", 2).finds("$..['b']", 5)
                .finds("$..b..a", 6, 7).finds("$..a..a", 4, 7).finds("$..['a','b']", 1, 5, 4, 6, 7)
                .finds("$..[-1,0]", 3, 2).finds("$..x").finds("$..[?@.a]", 5, 3, 6).finds("$.b..*", 6, 7);
        on("1").finds("$..*").finds("$..a").finds("$..[?@]");
    }

    private static void order() {
        on("[[1,2],[3,4]]").finds("$[1,0][1,0]", 6, 5, 3, 2).finds("$[0,0].*", 2, 3, 2, 3).finds("$[*,0]", 1, 4, 1)
                .finds("$[::-1][*]", 5, 6, 2, 3).finds("$..[1,0]", 4, 1, 3, 2, 6, 5)
                .finds("$[0,*,?@[0]==3,-1:]", 1, 1, 4, 4, 4).finds("$[0,0]..*", 2, 3, 2, 3);
    }

    private static void pathsAsTests() {
        on("[{\"a\":null},{\"b\":false},[],[0],0,\"a\"]").finds("$[?@]", 1, 3, 5, 6, 8, 9).finds("$[?$]", 1, 3, 5, 6, 8, 9).finds("$[?@.a]", 1)
                .finds("$[?@.b]", 3).finds("$[?@.*]", 1, 3, 6).finds("$[?@[0]]", 6).finds("$[?@..*]", 1, 3, 6)
                .finds("$[?$.a]").finds("$[?$[0].a]", 1, 3, 5, 6, 8, 9).finds("$[?@[1:]]").finds("$[?@.a,?@.b]", 1, 3);
        on("{\"x\":{\"a\":1},\"y\":2}").finds("$[?@.a]", 1).finds("$[?@==2]", 3);
    }

    private static void signs() {
        on("[1,2,3,4,5,6]").finds("$[?!@==1]", 2, 3, 4, 5, 6).finds("$[?!!@==1]", 1).finds("$[?@>2&&@<5]", 3, 4)
                .finds("$[?@<2||@>5]", 1, 6).finds("$[?@==1||@>2&&@<4]", 1, 3).finds("$[?@>2&&@<4||@==1]", 1, 3)
                .finds("$[?(@==1||@>2)&&@<4]", 1, 3).finds("$[?(@==6||@>2)&&@<4]", 3)
                .finds("$[?!@==1&&@<3]", 2).finds("$[?!(@==1||@<3)]", 3, 4, 5, 6).finds("$[?@==1||@==3||@==5]", 1, 3, 5)
                .finds("$[?@>1&&@>2&&@>3]", 4, 5, 6).finds("$[?!@]").finds("$[?!$.a]", 1, 2, 3, 4, 5, 6);
    }

    private static void equality() {
        on("[null,false,true,0,1,\"\",\"1\",[],{}]").finds("$[?@==null]", 1).finds("$[?@==false]", 2).finds("$[?@==true]", 3).finds("$[?@==0]", 4)
                .finds("$[?@==1]", 5).finds("$[?@=='']", 6).finds("$[?@=='1']", 7).finds("$[?@==$[7]]", 8)
                .finds("$[?@==$[8]]", 9).finds("$[?@!=null]", 2, 3, 4, 5, 6, 7, 8, 9).finds("$[?@==@]", 1, 2, 3, 4, 5, 6, 7, 8, 9)
                .finds("$[?@!=@]").finds("$[?null==@]", 1).finds("$[?1==1]", 1, 2, 3, 4, 5, 6, 7, 8, 9).finds("$[?1==2]");
        on("[[1,[2]],[1,[2]],[1,[3]],[[2],1],[1],[1,[2],3],[[],[]]]").finds("$[?@==$[0]]", 1, 5).finds("$[?@!=$[0]]", 9, 13, 17, 19, 24).finds("$[?@[0]==@[1]]", 24);
        on("[{\"a\":1,\"b\":[2]},{\"b\":[2],\"a\":1},{\"a\":1},{\"a\":1,\"c\":[2]},{\"a\":1,\"b\":2},{},[]]").finds("$[?@==$[0]]", 1, 5).finds("$[?@==$[2]]", 9).finds("$[?@==$[5]]", 18).finds("$[?@==$[6]]", 19)
                .finds("$[?@.b==$[0].b]", 1, 5);
        on("[[[[[[1]]]]],[[[[[1]]]]],[[[[[2]]]]]]").finds("$[?@==$[0]]", 1, 7);
        on("{\"x\":{\"a\":[],\"b\":{}},\"y\":{\"b\":{},\"a\":[]},\"z\":{\"b\":[],\"a\":{}}}").finds("$[?@==$.x]", 1, 4);
    }

    private static void less() {
        on("[-5,0,3,\"3\",null,[1]]").finds("$[?@<3]", 1, 2).finds("$[?@<=3]", 1, 2, 3).finds("$[?@>-5]", 2, 3).finds("$[?@>=-5]", 1, 2, 3)
                .finds("$[?3>@]", 1, 2).finds("$[?0<=@]", 2, 3).finds("$[?@<=null]", 5).finds("$[?@>=null]", 5)
                .finds("$[?@<null]").finds("$[?@>true]").finds("$[?@<=$[5]]", 6).finds("$[?@>=$[5]]", 6)
                .finds("$[?@<$[5]]").finds("$[?@<'9']", 4);
        on("[\"\",\"a\",\"ab\",\"b\",\"B\",\"aa\",5]").finds("$[?@<'ab']", 1, 2, 5, 6).finds("$[?@<='ab']", 1, 2, 3, 5, 6).finds("$[?@>'a']", 3, 4, 6)
                .finds("$[?@>='a']", 2, 3, 4, 6).finds("$[?@<'']").finds("$[?@<='']", 1).finds("$[?@>'']", 2, 3, 4, 5, 6)
                .finds("$[?@<'~']", 1, 2, 3, 4, 5, 6).finds("$[?'ab'>@]", 1, 2, 5, 6);
    }

    private static void nothing() {
        on("[{\"a\":1},{\"b\":1},null]").finds("$[?@.a==@.b]", 5).finds("$[?@.a!=@.b]", 1, 3).finds("$[?@.a<=@.b]", 5).finds("$[?@.a>=@.b]", 5)
                .finds("$[?@.a<@.b]").finds("$[?@.a>@.b]").finds("$[?@.a==null]").finds("$[?@.a!=null]", 1, 3, 5)
                .finds("$[?@.a<2]", 1).finds("$[?@.a>=1]", 1).finds("$[?$.x==length(1)]", 1, 3, 5)
                .finds("$[?@.x==0]").finds("$[?@.x==false]").finds("$[?@.x=='']");
    }

    private static void lengthAndCount() {
        on("[\"\",\"abc\",[1,[2]],{\"a\":[3]},7,true,null]").finds("$[?length(@)==0]", 1).finds("$[?length(@)==3]", 2).finds("$[?length(@)==2]", 3)
                .finds("$[?length(@)==1]", 7).finds("$[?length(@)==@.x]", 10, 11, 12).finds("$[?length(@)>=1]", 2, 3, 7)
                .finds("$[?length('abc')==length(@)]", 2).finds("$[?length(length(@))==@.x]", 1, 2, 3, 7, 10, 11, 12)
                .finds("$[?length(@.x)==@.x]", 1, 2, 3, 7, 10, 11, 12).finds("$[?length(true)!=$.x]")
                .finds("$[?count(@.*)==2]", 3).finds("$[?count(@..*)==3]", 3).finds("$[?count(@.*)==0]", 1, 2, 10, 11, 12)
                .finds("$[?count(@)==1]", 1, 2, 3, 7, 10, 11, 12).finds("$[?count(@[0,0,0])==3]", 3)
                .finds("$[?count(@.*)==length(@)]", 1, 3, 7).finds("$[?count(@.*)==count(@..*)]", 1, 2, 10, 11, 12)
                .finds("$[?length(count(@))==$.x]", 1, 2, 3, 7, 10, 11, 12).finds("$[?count($.*)==7]", 1, 2, 3, 7, 10, 11, 12);
    }

    private static void conditionsInConditions() {
        on("[{\"k\":[1,2,3]},{\"k\":[4,5]},{\"k\":[3,9]}]").finds("$[?@.k[?@>8]]", 10)
                .finds("$[?@.k[?@==3]]", 1, 10).finds("$[?count(@.k[?@>1])==2]", 1, 6, 10)
                .finds("$[?@.k[?@==$[2].k[0]]]", 1, 10).finds("$..[?@[?@==5]]", 7).finds("$[?@[?@[?@==5]]]", 6)
                .finds("$[?count(@.k[?@>1])==count(@.k[?@<9])]", 6).finds("$[?@.k[?@>8]].k[?@<9]", 12)
                .finds("$[?count(@..[?@[0]||@>3])>count(@..[?@==3])]", 6, 10)
                .finds("$[?$[?@.k[?@==9]]]", 1, 6, 10).finds("$[?$[?@.k[?@==8]]]");
    }

    private static void atMost300Found() {
        On many = on("[[" + "1,".repeat(31) + "1],[1,1,1]]");
        Session session = many.read().type("$[0,0,0,1][*,*,*,9]");
        Session.due("segments", session.takeQuery(), 2);
        Session.due("find of 300", session.tryFind(), 300);
        Session.due("found(0)", session.paths().found(0), 2);
        Session.due("found(299)", session.paths().found(299), 37);
        Session.due("found(300)", session.paths().found(300), -1);
        tooMuch(session, "$[0,0,0,1][*,*,*,0]");
        session.finds("$[1][?@]", 35, 36, 37);
        many.isTooMuch("$[0,0,0,1][*,*,*,0].a").isTooMuch("$[0,0,0,1][*,*,*,0][0]")
                .finds("$[?count($[0,0,0,1][*,*,*,9])==300]", 1, 34)
                .isTooMuch("$[?$[0,0,0,1][*,*,*,0]]").isTooMuch("$[?count($[0,0,0,1][*,*,*,0])>0]");
    }

    private static void tooMuch(Session session, String query) {
        session.type(query);
        Session.due("query " + query, session.takeQuery() >= 0 ? 1 : 0, 1);
        Session.due("find " + query, session.tryFind(), Session.TOO_MUCH);
        Session.due("found by " + query, session.foundNodes(), "[]");
    }

    // Ten children of the root make the steps of each depth a digit of their number.
    private static final On TEN = on("[1,2,[1,2,3,4,5,6,7,8],[1,2,3,4,5],5,6,7,8,9,10]");
    // 60 + 24 + 7 + 7 + 1 steps in the innermost condition, then 1 + 7 + 1, 1 + 7 + 1, 1 + 7 + 1, and 1 + 9.
    private static final String MILLION = "$[?$[?$[?$[?$..*..a&&$..a&&$[3]..a&&$[3]..a&&$.a]"
            + "&&$[3]..a&&$.a]&&$[3]..a&&$.a]&&$[3]..a||@[7]]..[0]";

    private static void atMostAMillionSteps() {
        Session session = TEN.read();
        session.finds(MILLION, 4);
        session.findsAgain(MILLION, 4);
        tooMuch(session, MILLION + ".a");
        Session.due("find once more", session.tryFind(), Session.TOO_MUCH);
        session.finds("$[0]", 1);
    }

    private static void allPartsAreLookedAt() {
        String heavy = "$..*..a&&$..*..a";
        TEN.isTooMuch("$[?$[?$[?$[?" + heavy + "]]]]").finds("$[?$[?$[?" + heavy + "]]]");
        for (String part : new String[] {"1==2&&", "1==1||"}) {
            TEN.isTooMuch("$[?" + part + "$[?$[?$[?" + heavy + "]]]]");
            TEN.isTooMuch("$[?$[?$[?$[?" + part + heavy + "]]]]");
        }
        TEN.finds("$[?1==2&&$.a]").finds("$[?1==1||$.a]", 1, 2, 3, 12, 18, 19, 20, 21, 22, 23);
    }
}
