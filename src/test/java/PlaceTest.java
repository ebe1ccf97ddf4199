import java.util.Random;

/** Promise 5: place is that of the latest text that was taken. */
final class PlaceTest {
    public static void main(String[] args) {
        latestText();
        allBeforeThePlaceCanStand();
        Session.end();
    }

    private static void latestText() {
        Session session = new Session();
        Session.due("place of none", session.paths().place(), -1);
        session.type("[1,]");
        Session.due("place before it is taken", session.paths().place(), -1);
        session.illDocument("", 3);
        session.type("$.");
        Session.due("place stays", session.paths().place(), 3);
        session.illQuery("", 2);
        session.document("[1]", 2);
        session.illQuery("$x", 1);
        session.query("$", 0);
        session.illDocument(" ", 1);
        Session.due("find", session.tryFind(), 1);
        Session.due("place behind find", session.paths().place(), 1);
        session.query("$[0]", 1);
        Session.due("find", session.tryFind(), 1);
        Session.due("place", session.paths().place(), -1);
        session.illDocument("", 0);
    }

    private static final String[] DOCUMENTS = {
        "{\"a\":[1,-23,{\"b c\":\"x\",\"\":\"12345678\"}],\"c\":null,\"d\":[true,false,[[[[0]]]],{}]}",
        " [ 1 , \"a b\" , { \"a\" : 123456 , \"b\" : { \"a\" : [ ] } } ] "};
    private static final String[] QUERIES = {
        "$.abcdefgh..*[1,-234,3:4:-5,'x y']..[?@.a[?@]]",
        "$[?length(@.a)>=123456&&!(count($..*[?@>1])!=3||@['b'][-1]<'12345678'),?true==false,?null<=@[0],::]",
        "$[?!!!@.a,?(((@.*)))||!(!@..a)&&length(length(length(@)))==1]"};
    private static final String SIGNS = " $@.*[]{}()?!=<>&|,:'\"\\-0123456789abclnt";

    /** What stands before the place of an ill text is well, or ill just because it ends there. */
    private static void allBeforeThePlaceCanStand() {
        Random random = new Random(5);
        int ill = 0;
        for (int run = 0; run < 100000; run++) {
            boolean query = run % 2 == 0;
            String[] texts = query ? QUERIES : DOCUMENTS;
            String text = changed(texts[random.nextInt(texts.length)], random);
            int place = placeOf(text, query);
            if (place != TreePaths.NONE) {
                ill++;
                Session.due("place in " + text, place >= 0 && place <= text.length() ? 1 : 0, 1);
                int before = placeOf(text.substring(0, place), query);
                Session.due("place before " + place + " of " + text, before == TreePaths.NONE ? place : before, place);
            }
        }
        Session.due("enough ill texts", ill > 50000 ? 1 : 0, 1);
    }

    private static String changed(String text, Random random) {
        StringBuilder changed = new StringBuilder(text);
        for (int i = random.nextInt(3); i >= 0; i--) {
            int at = random.nextInt(changed.length());
            char sign = SIGNS.charAt(random.nextInt(SIGNS.length()));
            switch (random.nextInt(3)) {
                case 0 -> changed.setCharAt(at, sign);
                case 1 -> changed.insert(at, sign);
                default -> changed.deleteCharAt(at);
            }
        }
        return changed.toString();
    }

    private static int placeOf(String text, boolean query) {
        TreePaths paths = new TreePaths();
        for (int i = 0; i < text.length(); i++) {
            paths.type(text.charAt(i));
        }
        boolean ill = false;
        try {
            int size = query ? paths.query() : paths.document();
            Session.due("size of " + text, size >= 0 ? 1 : 0, 1);
        } catch (IllegalArgumentException e) {
            ill = true;
        }
        Session.due("whether there is a place of " + text, paths.place() != TreePaths.NONE ? 1 : 0, ill ? 1 : 0);
        return paths.place();
    }
}
