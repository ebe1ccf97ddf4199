/** What the document says of finding, in "Terms" and in promise 6: a test for each sentence that names a boundary. */
final class BoundaryFindTest {
    public static void main(String[] args) {
        rootFindsNodeZero();
        lookedAtFindsItself();
        segmentsGoFromAllFoundBefore();
        segmentFindsWhatItsSelectorsFindInOrder();
        belowGoesFromTheNodeItselfToo();
        aNodeMayBeFoundMoreThanOnce();
        nameFindsTheChildOfAnObject();
        nameFindsNothingInOthers();
        starFindsAllChildren();
        placeCountsFromZero();
        placeBelowZeroCountsFromTheEnd();
        conditionLooksAtEachChild();
        stepIsOneIfLeftOut();
        stretchPartsBelowZeroCountFromBehindTheEnd();
        stretchUpwards();
        stretchUpwardsLeftOut();
        stretchUpwardsBelowZero();
        stretchDownwards();
        stretchDownwardsLeftOut();
        placesThatTheArrayHasNot();
        stepZeroFindsNothing();
        stretchesRoundAllEdges();
        anyHoldsIfOneHolds();
        allHoldIfEachHolds();
        notHoldsIfItsTestDoesNot();
        bracketsHoldTogether();
        fourInOneAnotherAreLookedAt();
        allPartsAreLookedAt();
        pathAsATestHoldsIfItFindsANode();
        pathsValueIsThatOfTheNode();
        lengthOfOthersIsNothing();
        countIsHowManyNodes();
        nothingEqualsNothing();
        equalIsOfOneKind();
        equalArrays();
        equalObjects();
        lessNumbers();
        lessStrings();
        lessOfOthers();
        unequalIsNotEqual();
        lessOrEqual();
        theOtherWayRound();
        howManyNodes();
        noDocumentOrNoQuery();
        aSegmentFindsAtMost300();
        atMost300WithEachKindOfSelector();
        aSegmentOfAPathFindsAtMost300();
        segmentsGoFromAtMostAMillion();
        eachAsOftenAsOneDoes();
        fromAllThatLiesBelowToo();
        thenNothingIsFound();
        Session.end();
    }

    /** Queries on one document, each with an object of its own. */
    private record On(String document) {
        Session read() {
            Session session = new Session().type(Session.quoted(document));
            Session.due("document " + document, session.takeDocument() > 0 ? 1 : 0, 1);
            return session;
        }

        On finds(String query, int... nodes) {
            read().finds(query, nodes);
            return this;
        }

        On findsMany(String query, int count) {
            Session session = read();
            session.type(query);
            Session.due("query " + query, session.takeQuery() > 0 ? 1 : 0, 1);
            Session.due("find " + query, session.tryFind(), count);
            return this;
        }
    }

    private static On on(String document) {
        return new On(document);
    }

    private static void rootFindsNodeZero() {
        Session.sentence("$ finds node 0, in a condition too");
        on("7").finds("$", 0);
        on("[]").finds("$", 0);
        on("{}").finds("$", 0).finds("$[?$]");
        on("[1,[2]]").finds("$", 0).finds("$[?$[1]==@]", 2).finds("$[1][?$[0]==1]", 3).finds("$[?@[?$[0]==1]]", 2)
                .finds("$[1][?$[1][0]==@]", 3);
    }

    private static void lookedAtFindsItself() {
        Session.sentence("@ the node that is looked at");
        on("[1,[2,[2]]]").finds("$[?@==1]", 1).finds("$[1][?@==2]", 3).finds("$[?@[?@==2]]", 2)
                .finds("$[?@[?@[?@==2]]]", 2).finds("$[?@[1][?@==2]&&@[0]==2]", 2);
    }

    private static void segmentsGoFromAllFoundBefore() {
        Session.sentence("Each segment goes from all nodes found before it, in their order, to others");
        on("[[1,2],[3,4]]").finds("$[1,0][*]", 5, 6, 2, 3).finds("$[*][1,0]", 3, 2, 6, 5).finds("$[7][*]")
                .finds("$[7]..*").finds("$[0][0][*]").finds("$[*][*][*]");
    }

    private static void segmentFindsWhatItsSelectorsFindInOrder() {
        Session.sentence("one with . or [ ] finds, from a node, what its selectors find in their order");
        on("[5,6,7]").finds("$[2,0,1]", 3, 1, 2).finds("$[-1,5,0:2,?@==6]", 3, 1, 2, 2).finds("$[9,8,7]")
                .finds("$[1:,*]", 2, 3, 1, 2, 3);
        on("{'a':1,'b':2}").finds("$['b','a']", 2, 1).finds("$['c','b',0,'a']", 2, 1);
    }

    private static void belowGoesFromTheNodeItselfToo() {
        Session.sentence("one with .. does so from the node itself and all that lies below it, by their numbers");
        on("{'a':{'a':[{'a':1}]},'b':{'a':2}}").finds("$..a", 1, 2, 4, 6).finds("$.a..a", 2, 4).finds("$.a.a..a", 4)
                .finds("$.b..a", 6).finds("$.b.a..a").finds("$..*", 1, 5, 2, 3, 4, 6).finds("$..[0]", 3);
        on("7").finds("$..*").finds("$..a").finds("$..[0,'a',:,?@]");
        on("[]").finds("$..*");
        on("[[[[[[1]]]]]]").finds("$..*", 1, 2, 3, 4, 5, 6).finds("$..[-1]", 1, 2, 3, 4, 5, 6);
        on("[[1],2,[3]]").finds("$[0]..*", 2).finds("$[2]..*", 5).finds("$[1]..*").finds("$[2,0]..[0]", 5, 2);
        on("[[1],[2]]").finds("$..[1,0]", 3, 1, 2, 4);
    }

    private static void aNodeMayBeFoundMoreThanOnce() {
        Session.sentence("(A node may be found more than once.)");
        on("[1]").finds("$[0,0,-1,*]", 1, 1, 1, 1);
        on("[[1]]").finds("$[0,0][0,0]", 2, 2, 2, 2).finds("$..*..*", 2).finds("$[0,0]..*", 2, 2);
        on("{'a':1}").finds("$['a','a',?@,*]", 1, 1, 1, 1);
    }

    private static void nameFindsTheChildOfAnObject() {
        Session.sentence("'STRING' or NAME finds the child of that name, if it is an object");
        on("{'a':1,'':2,'abcdefgh':3,'0':4,'A':5}").finds("$.a", 1).finds("$['a']", 1).finds("$['']", 2)
                .finds("$.abcdefgh", 3).finds("$['abcdefgh']", 3).finds("$.abcdefg").finds("$['0']", 4).finds("$['A']", 5)
                .finds("$.b").finds("$[' ']").finds("$['a ']");
        on("{}").finds("$.a").finds("$['']");
        on("[{'a':1}]").finds("$.a").finds("$['a']").finds("$['0']").finds("$[0].a", 2);
        on("'a'").finds("$.a");
        on("null").finds("$.a");
    }

    private static void nameFindsNothingInOthers() {
        Session.sentence("finds the child of that name, if it is an object: in others nothing");
        // The values of an array have no names, and no empty ones, either.
        on("[1,2]").finds("$['']").finds("$['1']").finds("$..['']").finds("$[?@['']]");
        on("{'':[3,4]}").finds("$['']", 1).finds("$['']['']").finds("$..['']", 1);
        for (String other : new String[] {"''", "'abcdefgh'", "0", "999999", "-999999", "null", "true", "false", "[]", "{}"}) {
            on(other).finds("$['']").finds("$.a").finds("$..a");
            on("{'a':" + other + "}").finds("$.a['']").finds("$.a.a").finds("$..a", 1);
        }
    }

    private static void starFindsAllChildren() {
        Session.sentence("* all its children");
        on("[4,5]").finds("$.*", 1, 2).finds("$[*]", 1, 2);
        on("{'a':4,'b':5}").finds("$.*", 1, 2).finds("$[*]", 1, 2);
        for (String none : new String[] {"[]", "{}", "'ab'", "12", "true", "false", "null"}) {
            on(none).finds("$.*").finds("$[*]");
        }
        on("[" + "1,".repeat(38) + "1]").findsMany("$.*", 39);
    }

    private static void placeCountsFromZero() {
        Session.sentence("N the child N of an array, from 0");
        on("[5,6,7]").finds("$[0]", 1).finds("$[1]", 2).finds("$[2]", 3).finds("$[3]").finds("$[999]");
        on("[]").finds("$[0]");
        on("{'a':1,'0':2}").finds("$[0]").finds("$[1]");
        on("'abc'").finds("$[0]");
        on("123").finds("$[0]");
        on("[" + "1,".repeat(38) + "1]").finds("$[38]", 39).finds("$[39]").finds("$[40]").finds("$[10]", 11);
    }

    private static void placeBelowZeroCountsFromTheEnd() {
        Session.sentence("or, below 0, as many from the end");
        on("[5,6,7]").finds("$[-1]", 3).finds("$[-2]", 2).finds("$[-3]", 1).finds("$[-4]").finds("$[-999]");
        on("[]").finds("$[-1]");
        on("{'a':1,'-1':2}").finds("$[-1]");
        on("'abc'").finds("$[-1]");
        on("[" + "1,".repeat(38) + "1]").finds("$[-39]", 1).finds("$[-40]").finds("$[-1]", 39);
    }

    private static void conditionLooksAtEachChild() {
        Session.sentence("?ANY those of its children for which ANY holds, each being looked at in turn");
        on("[1,2,1]").finds("$[?@==1]", 1, 3).finds("$[?@==3]").finds("$[?@<3]", 1, 2, 3);
        on("{'a':1,'b':2}").finds("$[?@==2]", 2).finds("$[?@]", 1, 2);
        for (String none : new String[] {"[]", "{}", "'ab'", "12", "true", "null"}) {
            on(none).finds("$[?1==1]").finds("$[?@]");
        }
    }

    private static final On SIX = on("[0,1,2,3,4,5]");
    private static final On EMPTY = on("[]");

    private static void stepIsOneIfLeftOut() {
        Session.sentence("F:T:S finds children of an array: S is 1 if it is left out");
        SIX.finds("$[1:4]", 2, 3, 4).finds("$[1:4:]", 2, 3, 4).finds("$[1:4:1]", 2, 3, 4);
        EMPTY.finds("$[:]").finds("$[::]").finds("$[0:0]").finds("$[::1]").finds("$[::-1]");
        on("{'a':1,'b':2}").finds("$[:]").finds("$[0:2]").finds("$[::-1]");
        on("'abc'").finds("$[:]").finds("$[::-1]");
        on("12").finds("$[:]").finds("$[0:1]");
    }

    private static void stretchPartsBelowZeroCountFromBehindTheEnd() {
        Session.sentence("a number below 0 counts from behind the end, as the array's length and it");
        SIX.finds("$[-1:]", 6).finds("$[-6:]", 1, 2, 3, 4, 5, 6).finds("$[:-1]", 1, 2, 3, 4, 5).finds("$[:-5]", 1)
                .finds("$[:-6]").finds("$[-3:-1]", 4, 5).finds("$[-1:-3]").finds("$[-1::-1]", 6, 5, 4, 3, 2, 1)
                .finds("$[-6::-1]", 1).finds("$[:-1:-1]").finds("$[:-2:-1]", 6).finds("$[:-6:-1]", 6, 5, 4, 3, 2)
                .finds("$[-2:-5:-2]", 5, 3);
    }

    private static void stretchUpwards() {
        Session.sentence("With S above 0: those at F, F + S, .. that are below T");
        SIX.finds("$[0:6]", 1, 2, 3, 4, 5, 6).finds("$[0:5]", 1, 2, 3, 4, 5).finds("$[5:6]", 6).finds("$[0:1]", 1)
                .finds("$[2:2]").finds("$[3:2]").finds("$[0:5:2]", 1, 3, 5).finds("$[0:4:2]", 1, 3).finds("$[1:5:2]", 2, 4)
                .finds("$[0:6:5]", 1, 6).finds("$[0:5:5]", 1).finds("$[0:6:6]", 1).finds("$[2:6:999]", 3);
    }

    private static void stretchUpwardsLeftOut() {
        Session.sentence("(left out: 0 and the length");
        SIX.finds("$[:]", 1, 2, 3, 4, 5, 6).finds("$[:2]", 1, 2).finds("$[4:]", 5, 6).finds("$[::]", 1, 2, 3, 4, 5, 6)
                .finds("$[::2]", 1, 3, 5).finds("$[::5]", 1, 6).finds("$[1::2]", 2, 4, 6).finds("$[:3:2]", 1, 3);
    }

    private static void stretchUpwardsBelowZero() {
        Session.sentence("below 0: 0)");
        SIX.finds("$[-7:]", 1, 2, 3, 4, 5, 6).finds("$[-999:2]", 1, 2).finds("$[-7::2]", 1, 3, 5).finds("$[-8::2]", 1, 3, 5)
                .finds("$[-999::4]", 1, 5).finds("$[:-7]").finds("$[:-999]").finds("$[-999:-999]").finds("$[-9:-5]", 1);
        EMPTY.finds("$[-1:]").finds("$[:-1]").finds("$[-999:999]");
    }

    private static void stretchDownwards() {
        Session.sentence("With S below 0: those at F, F + S, .. that are above T");
        SIX.finds("$[5:0:-1]", 6, 5, 4, 3, 2).finds("$[5:4:-1]", 6).finds("$[5:5:-1]").finds("$[4:5:-1]")
                .finds("$[0:0:-1]").finds("$[1:0:-1]", 2).finds("$[5:0:-2]", 6, 4, 2).finds("$[4:0:-2]", 5, 3)
                .finds("$[5:0:-5]", 6).finds("$[5:0:-4]", 6, 2).finds("$[5:0:-999]", 6);
    }

    private static void stretchDownwardsLeftOut() {
        Session.sentence("(left out: the last one, and as far as there are some)");
        SIX.finds("$[::-1]", 6, 5, 4, 3, 2, 1).finds("$[:3:-1]", 6, 5).finds("$[2::-1]", 3, 2, 1).finds("$[0::-1]", 1)
                .finds("$[::-2]", 6, 4, 2).finds("$[::-5]", 6, 1).finds("$[::-6]", 6).finds("$[::-999]", 6)
                .finds("$[:-7:-1]", 6, 5, 4, 3, 2, 1).finds("$[:-999:-1]", 6, 5, 4, 3, 2, 1);
        EMPTY.finds("$[::-1]").finds("$[0::-1]").finds("$[:0:-1]").finds("$[-1::-1]");
    }

    private static void placesThatTheArrayHasNot() {
        Session.sentence("Places that the array hasn't find nothing");
        SIX.finds("$[6:]").finds("$[999:]").finds("$[6:999]").finds("$[5:999]", 6).finds("$[0:999]", 1, 2, 3, 4, 5, 6)
                .finds("$[6::-1]", 6, 5, 4, 3, 2, 1).finds("$[6::-2]", 5, 3, 1).finds("$[7::-2]", 6, 4, 2)
                .finds("$[999::-1]", 6, 5, 4, 3, 2, 1).finds("$[999::-2]", 6, 4, 2).finds("$[998::-2]", 5, 3, 1)
                .finds("$[999::-995]", 5).finds("$[999::-500]").finds("$[999::-999]", 1).finds("$[999:5:-1]")
                .finds("$[999:4:-1]", 6).finds("$[999:998:-1]").finds("$[-7::-1]").finds("$[-999::-1]")
                .finds("$[-7:-9:-1]").finds("$[999:-999:-499]", 2);
    }

    private static void stepZeroFindsNothing() {
        Session.sentence("S 0: nothing");
        SIX.finds("$[::0]").finds("$[0:6:0]").finds("$[5:0:0]").finds("$[-999:999:0]").finds("$[0::0,0]", 1);
        EMPTY.finds("$[::0]");
    }

    private static final String[] ENDS = {"", "0", "1", "2", "3", "4", "5", "999", "-1", "-2", "-3", "-4", "-5", "-999"};
    private static final String[] STEPS = {"", "0", "1", "2", "3", "999", "-1", "-2", "-3", "-4", "-999"};

    private static void stretchesRoundAllEdges() {
        Session.sentence("F:T:S finds children of an array: all ways round its edges");
        for (int length = 0; length <= 4; length++) {
            On array = on("[" + "7,7,7,7".substring(0, Math.max(0, 2 * length - 1)) + "]");
            for (String from : ENDS) {
                for (String to : ENDS) {
                    stretchesBetween(array.read(), length, from, to);
                }
            }
        }
    }

    private static void stretchesBetween(Session array, int length, String from, String to) {
        for (String step : STEPS) {
            array.finds("$[" + from + ":" + to + ":" + step + "]", stretch(length, from, to, step));
        }
    }

    /** The nodes of a stretch, by the document's words alone: node 1 is at place 0. */
    private static int[] stretch(int length, String from, String to, String step) {
        int s = step.isEmpty() ? 1 : Integer.parseInt(step);
        int first = from.isEmpty() ? (s > 0 ? 0 : length - 1) : fromBegin(from, length);
        int end = to.isEmpty() ? (s > 0 ? length : Integer.MIN_VALUE) : fromBegin(to, length);
        if (s > 0) {
            first = Math.max(first, 0);
            end = Math.max(end, 0);
        }
        int[] nodes = new int[length];
        int count = 0;
        for (int place = first; s != 0 && place > -2000 && place < 2000; place += s) {
            boolean inside = s > 0 ? place < end : place > end;
            if (inside && place >= 0 && place < length) {
                nodes[count] = place + 1;
                count++;
            }
        }
        return java.util.Arrays.copyOf(nodes, count);
    }

    private static int fromBegin(String number, int length) {
        int place = Integer.parseInt(number);
        return place < 0 ? length + place : place;
    }

    private static final boolean[] BOTH = {false, true};

    /** A condition of A, B and C, each put in as a test that holds or doesn't. */
    private static void holds(String condition, boolean a, boolean b, boolean c, boolean due) {
        String query = "$[?" + condition.replace("A", test(a)).replace("B", test(b)).replace("C", test(c)) + "]";
        on("[7]").finds(query, due ? new int[] {1} : new int[0]);
        String byPaths = "$[?" + condition.replace("A", path(a)).replace("B", path(b)).replace("C", path(c)) + "]";
        on("[7]").finds(byPaths, due ? new int[] {1} : new int[0]);
    }

    private static String test(boolean holds) {
        return holds ? "@==7" : "@<7";
    }

    private static String path(boolean finds) {
        return finds ? "@" : "@.*";
    }

    private static void anyHoldsIfOneHolds() {
        Session.sentence("ANY: ALL, or some with || between them");
        for (boolean a : BOTH) {
            holds("A", a, a, a, a);
            for (boolean b : BOTH) {
                holds("A||B", a, b, b, a || b);
                for (boolean c : BOTH) {
                    holds("A||B||C", a, b, c, a || b || c);
                    holds("A||B&&C", a, b, c, a || (b && c));
                    holds("A&&B||C", a, b, c, (a && b) || c);
                    holds("A&&B||B&&C||C&&A", a, b, c, (a && b) || (b && c) || (c && a));
                }
            }
        }
    }

    private static void allHoldIfEachHolds() {
        Session.sentence("ALL: TEST, or some with && between them");
        for (boolean a : BOTH) {
            for (boolean b : BOTH) {
                holds("A&&B", a, b, b, a && b);
                for (boolean c : BOTH) {
                    holds("A&&B&&C", a, b, c, a && b && c);
                }
            }
        }
    }

    private static void notHoldsIfItsTestDoesNot() {
        Session.sentence("TEST: !TEST");
        for (boolean a : BOTH) {
            holds("!A", a, a, a, !a);
            holds("!!A", a, a, a, a);
            holds("!!!A", a, a, a, !a);
            for (boolean b : BOTH) {
                // It is of the one test behind it, and not of all that comes.
                holds("!A&&B", a, b, b, !a && b);
                holds("!A||B", a, b, b, !a || b);
                holds("A&&!B", a, b, b, a && !b);
                holds("!A||!B", a, b, b, !a || !b);
            }
        }
        on("[1,2,3]").finds("$[?!@==2]", 1, 3).finds("$[?!@<2]", 2, 3).finds("$[?!@!=2]", 2);
    }

    private static void bracketsHoldTogether() {
        Session.sentence("TEST: (ANY)");
        for (boolean a : BOTH) {
            holds("(A)", a, a, a, a);
            holds("(((A)))", a, a, a, a);
            for (boolean b : BOTH) {
                holds("!(A||B)", a, b, b, !(a || b));
                holds("!(A&&B)", a, b, b, !(a && b));
                holds("(!A)&&B", a, b, b, !a && b);
                for (boolean c : BOTH) {
                    holds("(A||B)&&C", a, b, c, (a || b) && c);
                    holds("A&&(B||C)", a, b, c, a && (b || c));
                    holds("!(A||(B&&C))", a, b, c, !(a || (b && c)));
                }
            }
        }
    }

    private static void fourInOneAnotherAreLookedAt() {
        Session.sentence("at most four are in one another: what all four find");
        on("[1,[2],'ab',{'a':[7]}]").finds("$[?!!!@.*]", 1, 4).finds("$[?(((@.*)))]", 2, 5).finds("$[?!(!@.*)]", 2, 5)
                .finds("$[?!((@.*))]", 1, 4).finds("$[?!!count(@.*)==1]", 2, 5).finds("$[?!!length(@)==1]", 2, 5)
                .finds("$[?length(length(length(@)))==$.x]", 1, 2, 4, 5).finds("$[?length(length(count(@)))==1]")
                .finds("$[?!count(@[?@==2])==1]", 1, 4, 5).finds("$[?(@[?count(@.*)==1])]", 5).finds("$[?@[?!(@==2)]]", 5)
                .finds("$[?count(@[?count(@.*)==1])==1]", 5).finds("$[?(!count(@.*)==count($[1].*))]", 1, 4)
                .finds("$[?1==count(@[?1==count(@.*)])]", 5).finds("$[?count(@[?@[?@==7]])==1]", 5);
        on("[[[[5,6]]]]").finds("$[?@[?@[?@[?@==6]]]]", 1).finds("$[?@[?@[?@[?@==7]]]]").finds("$[?@[?@[?@[?@]]]]", 1);
        on("[[[1]]]").finds("$[?@[?@[?@[?@]]]]").finds("$[?@[?@[?@]]]", 1);
    }

    // 1 + 10 * (1 + 10 * (1 + 10 * (1 + 10 * 99 + 8) + 8) + 8) steps, and 9 of the last segment: 1000000.
    private static final On TEN = on("[1,1,1,1,1,1,1,1,1,0]");
    private static final String NINETY_NINE = "$..a&&".repeat(8) + "$..a";
    private static final String INNER = "$[?$[?$[?" + NINETY_NINE + "]&&$[0:7].a]&&$[0:7].a]&&$[0:7].a";
    private static final String MILLION = "$[?" + INNER + "||@==1].a";

    private static void isTooMuch(On document, String query) {
        document.findsMany(query, Session.TOO_MUCH);
    }

    private static void allPartsAreLookedAt() {
        Session.sentence("All parts of a condition are looked at, whatever the others are");
        // With one step more in each turn of the outermost condition, the limit is passed.
        TEN.findsMany("$[?" + INNER + "||@==2].a", 0);
        for (String more : new String[] {"1==1||$.a", "1==2&&$.a", "$.a||1==1", "$.a&&1==2", "!$.a", "(1==2&&(1==1||$.a))"}) {
            isTooMuch(TEN, "$[?" + INNER + "||" + more + "].a");
        }
        isTooMuch(TEN, "$[?1==1||" + INNER + "||$.a].a");
        isTooMuch(TEN, "$[?1==2&&" + INNER + "||$.a].a");
        isTooMuch(TEN, "$[?" + INNER + "||1==length($.a)].a");
        isTooMuch(TEN, "$[?" + INNER + "||$.a.b==$.c].a");
        isTooMuch(TEN, "$[?" + INNER + "||$.b<=$.c].a");
    }

    private static void pathAsATestHoldsIfItFindsANode() {
        Session.sentence("A PATH as a TEST holds if it finds a node");
        on("[null,false,0,'',[],{},[null]]").finds("$[?@]", 1, 2, 3, 4, 5, 6, 7).finds("$[?@[0]]", 7).finds("$[?@.*]", 7)
                .finds("$[?@.a]").finds("$[?!@.*]", 1, 2, 3, 4, 5, 6).finds("$[?@[0,0]]", 7).finds("$[?$[9]]")
                .finds("$[?@[1:]]").finds("$[?$]", 1, 2, 3, 4, 5, 6, 7);
    }

    private static void pathsValueIsThatOfTheNode() {
        Session.sentence("A THING is a value, or NOTHING: a PATH's is that of the node it finds");
        on("[[1],[2],[],1]").finds("$[?@[0]==1]", 1).finds("$[?@[-1]==2]", 3).finds("$[?@[0]==$[9]]", 5, 6)
                .finds("$[?@==$[3]]", 6).finds("$[?@[1]==null]").finds("$[?@[1]==0]").finds("$[?@[1]==false]")
                .finds("$[?@[1]=='']").finds("$[?@[0]!=null]", 1, 3, 5, 6);
    }

    private static void lengthOfOthersIsNothing() {
        Session.sentence("length is how many characters a string, or children an array or object has, of others NOTHING");
        on("['','abcdefgh',[],[1,2],{},{'a':1},7,true,false,null]").finds("$[?length(@)==0]", 1, 3, 7)
                .finds("$[?length(@)==8]", 2).finds("$[?length(@)==2]", 4).finds("$[?length(@)==1]", 8)
                .finds("$[?length(@)==$[99]]", 10, 11, 12, 13).finds("$[?length(@)==null]").finds("$[?length(@)==7]")
                .finds("$[?length($[99])!=$[99]]").finds("$[?length(length(@))!=$[99]]").finds("$[?length(count(@))!=$[99]]");
        on("[1]").finds("$[?length('')==0]", 1).finds("$[?length('abcdefgh')==8]", 1).finds("$[?length(12)==2]")
                .finds("$[?length(null)==0]").finds("$[?length(true)==4]").finds("$[?length($)==1]", 1);
    }

    private static void countIsHowManyNodes() {
        Session.sentence("count how many nodes a PATH finds");
        on("[[],[1],[1,2],7]").finds("$[?count(@.*)==0]", 1, 7).finds("$[?count(@.*)==1]", 2).finds("$[?count(@.*)==2]", 4)
                .finds("$[?count(@)==1]", 1, 2, 4, 7).finds("$[?count($)==1]", 1, 2, 4, 7).finds("$[?count(@[0,0,0])==3]", 2, 4)
                .finds("$[?count($..*)==7]", 1, 2, 4, 7).finds("$[?count(@[9])==0]", 1, 2, 4, 7).finds("$[?count(@[9])==$.a]");
    }

    private static void nothingEqualsNothing() {
        Session.sentence("A == B: both are NOTHING, or equal");
        on("[1]").finds("$[?@.a==@.b]", 1).finds("$[?@.a==length(1)]", 1).finds("$[?@.a==1]").finds("$[?1==@.a]")
                .finds("$[?@.a==null]").finds("$[?@.a=='']").finds("$[?@.a==false]").finds("$[?@.a==$]").finds("$[?$==@.a]");
    }

    private static void equalIsOfOneKind() {
        Session.sentence("of one kind, numbers and strings the same");
        on("[null,false,true,0,1,-1,'','0','1','a','A',[],{}]").finds("$[?@==null]", 1).finds("$[?@==false]", 2)
                .finds("$[?@==true]", 3).finds("$[?@==0]", 4).finds("$[?@==1]", 5).finds("$[?@==-1]", 6).finds("$[?@=='']", 7)
                .finds("$[?@=='0']", 8).finds("$[?@=='1']", 9).finds("$[?@=='a']", 10).finds("$[?@=='A']", 11)
                .finds("$[?@=='a ']").finds("$[?@==$[11]]", 12).finds("$[?@==$[12]]", 13).finds("$[?@==count($.a)]", 4);
        on("[999999,-999999,'abcdefgh','abcdefgi','abcdefg']").finds("$[?@==999999]", 1).finds("$[?@==-999999]", 2)
                .finds("$[?@=='abcdefgh']", 3).finds("$[?@=='abcdefg']", 5);
    }

    private static void equalArrays() {
        Session.sentence("arrays with equal children in order");
        on("[[],[1],[1,2],[2,1],[1,2],[1,[2]],[1,1]]").finds("$[?@==$[0]]", 1).finds("$[?@==$[1]]", 2)
                .finds("$[?@==$[2]]", 4, 10).finds("$[?@==$[3]]", 7).finds("$[?@==$[5]]", 13).finds("$[?@==$[6]]", 17);
        on("[[],[[]],[[],[]],[[[]]],[{}]]").finds("$[?@==$[0]]", 1).finds("$[?@==$[1]]", 2).finds("$[?@==$[2]]", 4)
                .finds("$[?@==$[3]]", 7).finds("$[?@==$[4]]", 10);
        on("[[[[[[1]]]]],[[[[[1]]]]],[[[[[2]]]]],[[[[[]]]]]]").finds("$[?@==$[0]]", 1, 7);
    }

    private static void equalObjects() {
        Session.sentence("objects with equal values by the same names");
        on("[{},{'a':1},{'a':2},{'b':1},{'a':1,'b':1},{'a':1}]").finds("$[?@==$[0]]", 1).finds("$[?@==$[1]]", 2, 11)
                .finds("$[?@==$[3]]", 6).finds("$[?@==$[4]]", 8).finds("$[?$[4]==@]", 8);
        on("[{'a':1,'b':2},{'b':2,'a':1},{'a':2,'b':1},{'a':1,'c':2},{'':1,'b':2}]").finds("$[?@==$[0]]", 1, 4);
        on("[{'a':{'b':[1]}},{'a':{'b':[1]}},{'a':{'b':[2]}},{'a':{'c':[1]}}]").finds("$[?@==$[0]]", 1, 5);
    }

    private static void lessNumbers() {
        Session.sentence("A < B: both are numbers, or both strings, and the first is less");
        on("[-999999,-1,0,1,999999]").finds("$[?@<0]", 1, 2).finds("$[?@<-999999]").finds("$[?@<-999998]", 1)
                .finds("$[?@<999999]", 1, 2, 3, 4).finds("$[?@<1]", 1, 2, 3).finds("$[?0<@]", 4, 5).finds("$[?999999<@]")
                .finds("$[?@<@]").finds("$[?@<'0']").finds("$[?'0'<@]");
    }

    private static void lessStrings() {
        Session.sentence("(strings by their first characters that differ; one that another begins with is less)");
        on("['','a','ab','b','B','abcdefgh',' ','~']").finds("$[?@<'a']", 1, 5, 7).finds("$[?@<'ab']", 1, 2, 5, 7)
                .finds("$[?@<'']").finds("$[?''<@]", 2, 3, 4, 5, 6, 7, 8).finds("$[?@<'abcdefgh']", 1, 2, 3, 5, 7)
                .finds("$[?@<'b']", 1, 2, 3, 5, 6, 7).finds("$[?'b'<@]", 8).finds("$[?@<' ']", 1).finds("$[?@<@]")
                .finds("$[?@<'ac']", 1, 2, 3, 5, 6, 7).finds("$[?@<'aa']", 1, 2, 5, 7);
        on("['2','10']").finds("$[?@<'2']", 2).finds("$[?@<2]");
    }

    private static void lessOfOthers() {
        Session.sentence("A < B: both are numbers, or both strings: others are never less");
        On others = on("[null,false,true,1,'a',[],[1],{}]");
        for (int i = 0; i < 3; i++) {
            others.finds("$[?@<$[" + i + "]]").finds("$[?$[" + i + "]<@]");
        }
        others.finds("$[?@<$[5]]").finds("$[?$[5]<@]").finds("$[?$[6]<@]").finds("$[?@<$[7]]").finds("$[?@<$[99]]")
                .finds("$[?$[99]<@]").finds("$[?$[99]<$[98]]");
    }

    private static void unequalIsNotEqual() {
        Session.sentence("!= : not ==");
        on("[1,'1',null,[],[]]").finds("$[?@!=1]", 2, 3, 4, 5).finds("$[?@!=$[3]]", 1, 2, 3).finds("$[?@!=$.a]", 1, 2, 3, 4, 5)
                .finds("$[?$.a!=$.b]").finds("$[?@!=@]");
    }

    private static void lessOrEqual() {
        Session.sentence("<= : < or ==");
        on("[1,2,3,'2',null,[],true]").finds("$[?@<=2]", 1, 2).finds("$[?2<=@]", 2, 3).finds("$[?@<='2']", 4)
                .finds("$[?@<=null]", 5).finds("$[?@<=$[5]]", 6).finds("$[?@<=true]", 7).finds("$[?@<=false]")
                .finds("$[?$.a<=$.b]", 1, 2, 3, 4, 5, 6, 7).finds("$[?$.a<=@]").finds("$[?@<=$.a]");
    }

    private static void theOtherWayRound() {
        Session.sentence("> and >= : the other way round");
        on("[1,2,3,'2',null,[],true]").finds("$[?@>2]", 3).finds("$[?2>@]", 1).finds("$[?@>=2]", 2, 3).finds("$[?2>=@]", 1, 2)
                .finds("$[?@>='2']", 4).finds("$[?@>'1']", 4).finds("$[?@>'2']").finds("$[?@>null]").finds("$[?@>=null]", 5)
                .finds("$[?@>=$[5]]", 6).finds("$[?@>$[5]]").finds("$[?@>=true]", 7).finds("$[?@>=false]")
                .finds("$[?$.a>=$.b]", 1, 2, 3, 4, 5, 6, 7).finds("$[?$.a>$.b]").finds("$[?@>=$.a]").finds("$[?@>$.a]");
    }

    private static void howManyNodes() {
        Session.sentence("Finds what the query finds in the document: how many nodes");
        Session session = new Session().document("[1,[2,3]]", 5).finds("$[9]").finds("$", 0).finds("$..*", 1, 2, 3, 4);
        session.findsAgain("$..*", 1, 2, 3, 4);
        session.query("$[0]", 1).findsAgain("$[0]", 1);
        session.document("[[1]]", 3).findsAgain("$[0]", 1);
        session.document("[]", 1).findsAgain("$[0]");
    }

    private static void noDocumentOrNoQuery() {
        Session.sentence("IllegalStateException: there is no document, or no query");
        Session.due("neither", new Session().tryFind(), Session.NO_STATE);
        Session.due("no query", new Session().document("[1]", 2).tryFind(), Session.NO_STATE);
        Session.due("no document", new Session().query("$", 0).tryFind(), Session.NO_STATE);
        Session.due("an ill query", new Session().document("[1]", 2).illQuery("$.", 2).tryFind(), Session.NO_STATE);
        Session.due("an ill document", new Session().query("$", 0).illDocument("[1,2", 4).tryFind(), Session.NO_STATE);
        Session.due("both ill", new Session().illQuery("$.", 2).illDocument("[", 1).tryFind(), Session.NO_STATE);
        Session.due("texts not taken", new Session().document("[1]", 2).type("$").tryFind(), Session.NO_STATE);
        Session session = new Session();
        Session.due("neither", session.tryFind(), Session.NO_STATE);
        Session.due("place", session.paths().place(), -1);
        session.document("[1]", 2);
        Session.due("no query", session.tryFind(), Session.NO_STATE);
        session.query("$[0]", 1).findsAgain("$[0]", 1);
    }

    // From 0, 97 nodes with [*,*,*,0], and from 1 as many as ten: three times 97 and ten are 301.
    private static final On MANY = on("[[" + "1,".repeat(31) + "1],[1,1,1]]");
    private static final String FINDS_300 = "[0,0,0,1][*,*,*,9]";
    private static final String FINDS_301 = "[0,0,0,1][*,*,*,0]";

    private static void aSegmentFindsAtMost300() {
        Session.sentence("UnsupportedOperationException: a segment would find more than 300 nodes");
        MANY.findsMany("$" + FINDS_300, 300).findsMany("$" + FINDS_300 + ".a", 0).findsMany("$" + FINDS_300 + "[?@]", 0);
        isTooMuch(MANY, "$" + FINDS_301);
        isTooMuch(MANY, "$" + FINDS_301 + ".a");
        isTooMuch(MANY, "$" + FINDS_301 + "..*");
        on("[[[" + "1,".repeat(24) + "1]]]").findsMany("$..[0,0,0,0]", 12).findsMany("$[0][0,0,0][*,*,*,*]", 300);
        // Two segments find 300 each, and they aren't added up.
        on("[[" + "[1],".repeat(18) + "[1]]]").findsMany("$[0,0,0,0][*,*,*,0:18][*]", 300)
                .findsMany("$[0,0,0,0][*,*,*,0:18]..*", 300);
        Session full = MANY.read().type("$" + FINDS_300);
        Session.due("segments", full.takeQuery(), 2);
        Session.due("find", full.tryFind(), 300);
        Session.due("found(299)", full.paths().found(299), 37);
        Session.due("found(300)", full.paths().found(300), -1);
    }

    private static void atMost300WithEachKindOfSelector() {
        Session.sentence("a segment would find more than 300 nodes: whichever of its selectors finds the last one");
        for (String selector : new String[] {"*", ":", "::-1", "?@", "?@==1"}) {
            for (String begin : new String[] {"$[0,0,0,1][", "$[0,0,0,1]..["}) {
                String three = begin + "*,*," + selector;
                MANY.findsMany(three + ",9]", 300).findsMany(three + ",9].a", 0);
                isTooMuch(MANY, three + ",0]");
                isTooMuch(MANY, begin + "0,*,*," + selector + "]");
            }
        }
        // Each of 75 nodes finds four, or each of 76.
        on("[" + "[1],".repeat(18) + "[1]]").findsMany("$[*,*,*,0:18][0,-1,0,-1]", 300)
                .findsMany("$[*,*,*,*][0,-1,0,-1]", Session.TOO_MUCH);
        on("[" + "{'a':1},".repeat(18) + "{'a':1}]").findsMany("$[*,*,*,0:18]['a','a','a','a']", 300)
                .findsMany("$[*,*,*,*]['a','a','a','a']", Session.TOO_MUCH);
    }

    private static void aSegmentOfAPathFindsAtMost300() {
        Session.sentence("a segment would find more than 300 nodes: those of PATHs are segments, too");
        MANY.finds("$[?count($" + FINDS_300 + ")==300]", 1, 34).finds("$[?$" + FINDS_300 + "]", 1, 34);
        isTooMuch(MANY, "$[?count($" + FINDS_301 + ")==301]");
        isTooMuch(MANY, "$[?$" + FINDS_301 + "]");
        isTooMuch(MANY, "$[?1==1||$" + FINDS_301 + "]");
        isTooMuch(MANY, "$[?1==2&&$" + FINDS_301 + "]");
    }

    private static void segmentsGoFromAtMostAMillion() {
        Session.sentence("or segments (those of PATHs, too) would go from more than 1000000 nodes in all");
        TEN.findsMany(MILLION, 0);
        // It finds ten and not nine, so the last segment goes from one more.
        isTooMuch(TEN, MILLION.replace("@==1", "@<2"));
        // What a segment finds, but no other goes from, doesn't count.
        TEN.findsMany(MILLION.replace("@==1].a", "@<2]"), 10);
        // Each call of find counts for itself.
        Session session = TEN.read().type(MILLION);
        Session.due("segments", session.takeQuery(), 2);
        for (int i = 0; i < 3; i++) {
            Session.due("find", session.tryFind(), 0);
        }
    }

    private static void eachAsOftenAsOneDoes() {
        Session.sentence("each as often as one does");
        isTooMuch(TEN, MILLION.replace("@==1]", "@==1,0]"));
        isTooMuch(TEN, MILLION.replace("$[0:7].a||", "$[0:6,0,0].a||"));
        TEN.findsMany(MILLION.replace("$[0:7].a||", "$[0:5,0,0].a||"), 0);
        TEN.findsMany(MILLION.replace("$[0:7].a||", "$[0:4,0,0].a||"), 0);
    }

    private static void fromAllThatLiesBelowToo() {
        Session.sentence("one with .. from all that lies below too");
        TEN.findsMany(MILLION.replace("].a", "]..a"), 0);
        isTooMuch(TEN, MILLION.replace(".a||", ".a&&$..a||"));
        isTooMuch(TEN, MILLION.replace("$[0:7].a||", "$..a||"));
        TEN.findsMany(MILLION.replace("$[0:7].a||", "$.a||"), 0);
        // From the node itself it goes, too: 1 + 7 as $[0:7].a does.
        TEN.findsMany(MILLION.replace("$[0:7].a||", "$[0:7]..a||"), 0);
        isTooMuch(TEN, MILLION.replace("$[0:7].a||", "$[0:8]..a||"));
    }

    private static void thenNothingIsFound() {
        Session.sentence("(then nothing is found)");
        Session session = MANY.read().finds("$[0][0]", 2);
        session.type("$" + FINDS_301);
        Session.due("segments", session.takeQuery(), 2);
        Session.due("found(0) before", session.paths().found(0), 2);
        Session.due("find", session.tryFind(), Session.TOO_MUCH);
        Session.due("found", session.foundNodes(), "[]");
        Session.due("find again", session.tryFind(), Session.TOO_MUCH);
        Session.due("found", session.foundNodes(), "[]");
        Session.due("place", session.paths().place(), -1);
        Session.due("kind(0)", session.paths().kind(0), 5);
        session.finds("$[1][0]", 35);
        Session steps = TEN.read().finds("$[0]", 1).type(MILLION.replace("@==1", "@<2"));
        Session.due("segments", steps.takeQuery(), 2);
        Session.due("find", steps.tryFind(), Session.TOO_MUCH);
        Session.due("found", steps.foundNodes(), "[]");
        steps.finds("$[0]", 1);
    }
}
