/** Promise 13: text. */
final class TextTest {
    public static void main(String[] args) {
        Session session = new Session().document(
                "  { \"a b\" : [ 1 , -20 , \" \" , [ ] , { } ] , \" c\" : { \"d\" : null } , \"e\" : true , \"f\": false }  ", 11);
        String[] texts = {"{\"a b\":[1,-20,\" \",[],{}],\" c\":{\"d\":null},\"e\":true,\"f\":false}",
                "[1,-20,\" \",[],{}]", "1", "-20", "\" \"", "[]", "{}", "{\"d\":null}", "null", "true", "false"};
        for (int node = 0; node < texts.length; node++) {
            Session.due("text of " + node, session.text(node), texts[node]);
            Session.due("text behind its end", session.paths().text(node, texts[node].length()), 0);
        }
        for (int i : new int[] {-1, 64, 160, Integer.MAX_VALUE, Integer.MIN_VALUE}) {
            Session.due("text(0, " + i + ")", session.paths().text(0, i), 0);
        }
        for (int node : new int[] {-1, 11, 40, Integer.MAX_VALUE, Integer.MIN_VALUE}) {
            Session.due("text(" + node + ", 0)", session.paths().text(node, 0), 0);
        }
        Session.due("text of a string with a blank at its end",
                new Session().document(" \"a  \" ", 1).text(0), "\"a  \"");
        session.type("[1, 2");
        Session.due("text while another is typed", session.text(8), "null");
        Session.end();
    }
}
