/** Promise 7: found. */
final class FoundTest {
    public static void main(String[] args) {
        Session session = new Session().document("[1,[2,3]]", 5);
        Session.due("found(0) before find", session.paths().found(0), -1);
        session.finds("$[1,0]", 2, 1);
        Session.due("found(0)", session.paths().found(0), 2);
        Session.due("found(1)", session.paths().found(1), 1);
        for (int k : new int[] {2, 3, 299, 300, -1, Integer.MAX_VALUE, Integer.MIN_VALUE}) {
            Session.due("found(" + k + ")", session.paths().found(k), -1);
        }
        session.finds("$[1][*]", 3, 4).finds("$[5]");
        Session.due("found(0) of none", session.paths().found(0), -1);
        session.finds("$..*", 1, 2, 3, 4).finds("$", 0);
        Session.due("found(1) of fewer", session.paths().found(1), -1);
        Session.end();
    }
}
