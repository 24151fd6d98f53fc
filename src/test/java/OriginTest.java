/** Promise 2 on connection 2: the origin itself. */
public final class OriginTest {
    private static final Kit KIT = new Kit();

    public static void main(String[] args) {
        puts();
        putConditions();
        choosing();
        deletes();
        sixResources();
        KIT.end();
    }

    private static String written(int status, int tag) {
        return status + "\nE:" + tag + "\nL:0\n\n";
    }

    private static void puts() {
        EdgeCache x = new EdgeCache(300);
        KIT.due("a new one", Kit.ask(x, 2, "PUT /\nP:m1\nL:1\n\nx"), written(201, 1));
        KIT.due("the same body", Kit.ask(x, 2, "PUT /\nK:a\nL:1\n\nx"), written(204, 1));
        KIT.due("the policy is empty then", Kit.ask(x, 2, "GET /\n\n"), "200\nE:1\nK:a\nL:1\n\nx");
        KIT.due("another body", Kit.ask(x, 2, "PUT /\n\n"), written(204, 2));
        KIT.due("another letter", Kit.ask(x, 2, "PUT /\nK:c\nP:s 5\nL:1\n\nx"), written(201, 3));
        KIT.due("the policy is of the resource", Kit.ask(x, 2, "GET /\n\n"), "200\nE:2\nK:a\nY:V\nP:s 5\nL:0\n\n");
        for (String letter : new String[] {"", "d", "A", "aa", "a ", " a", "`", "1"}) {
            KIT.due("the letter '" + letter + "'", Kit.ask(x, 2, "PUT /\nK:" + letter + "\nM:9\n\n"), Kit.bare(415));
        }
        KIT.due("tag()", x.tag(), 3);
        KIT.due("nothing is stored", x.stored() + x.queue() + x.upstream(0), 0);
    }

    private static void putConditions() {
        EdgeCache x = new EdgeCache(0);
        KIT.due("M without a resource", Kit.ask(x, 2, "PUT /\nM:*\n\n"), Kit.bare(412));
        KIT.due("N without a resource", Kit.ask(x, 2, "PUT /\nN:*\n\n"), written(201, 1));
        KIT.due("N that matches", Kit.ask(x, 2, "PUT /\nN:*\n\n"), Kit.bare(412));
        KIT.due("N that matches by number", Kit.ask(x, 2, "PUT /\nN:3,1\n\n"), Kit.bare(412));
        KIT.due("M without the letter", Kit.ask(x, 2, "PUT /\nK:b\nM:1\n\n"), Kit.bare(412));
        KIT.due("N without the letter", Kit.ask(x, 2, "PUT /\nK:b\nN:*\n\n"), written(201, 2));
        KIT.due("M of another letter", Kit.ask(x, 2, "PUT /\nK:b\nM:1\n\n"), Kit.bare(412));
        KIT.due("M that matches", Kit.ask(x, 2, "PUT /\nK:b\nM:2\nN:1\nL:1\n\nx"), written(204, 3));
        KIT.due("both match", Kit.ask(x, 2, "PUT /\nK:b\nM:3\nN:3\n\n"), Kit.bare(412));
        KIT.due("tag()", x.tag(), 3);
    }

    private static void dueLetter(String letters, String values, String want) {
        EdgeCache x = new EdgeCache(0);
        for (int i = 0; i < letters.length(); i++) {
            Kit.ask(x, 2, "PUT /\nK:" + letters.charAt(i) + "\n\n");
        }
        String answer = Kit.ask(x, 2, "GET /\n" + values + "\n");
        int at = answer.indexOf("K:");
        KIT.due("of " + letters + " with " + values.replace("\n", "|"),
                at < 0 ? answer : answer.substring(at + 2, at + 3), want);
    }

    private static void choosing() {
        String none = Kit.bare(406);
        String[] cases = {
            "abc", "", "a", "cb", "", "b", "c", "V:a\n", "c", "b", "V:\n", "b", "b", "V:b0\n", "b",
            "ab", "V:\n", none, "ab", "V:c\n", none, "ab", "V:a0b0\n", none, "ab", "V:AB\n", none,
            "ab", "V:b\n", "b", "ab", "V:ab\n", "a", "ab", "V:a1b2\n", "b", "ab", "V:a9b\n", "a",
            "ab", "V:a8b\n", "b", "ab", "V:a10b\n", "a", "abc", "V:c1b1\n", "b", "abc", "V:b5c05\n", "b",
            "ab", "V:b9b0a1\n", "a", "ab", "V:b0a1b\n", "b", "abc", "V:a 9b1\n", "a", "abc", "V:a1,c2.9\n", "c",
            "ca", "V:b9a1\n", "a", "ac", "V:a1x9c1\n", "a", "ab", "V:b\nV:a\n", "a", "ab", "V:b999999\n", "b"};
        for (int i = 0; i < cases.length; i += 3) {
            dueLetter(cases[i], cases[i + 1], cases[i + 2]);
        }
        EdgeCache x = new EdgeCache(0);
        KIT.due("no resource", Kit.ask(x, 2, "HEAD /\nM:1\nV:\n\n"), Kit.bare(404));
        Kit.ask(x, 2, "PUT /\n\nPUT /\nK:b\n\n");
        KIT.due("none chosen", Kit.ask(x, 2, "HEAD /\nM:9\nV:\n\n"), Kit.bare(406));
    }

    private static void deletes() {
        EdgeCache x = new EdgeCache(0);
        KIT.due("no resource", Kit.ask(x, 2, "DELETE /\nM:*\n\n"), Kit.bare(404));
        Kit.ask(x, 2, "PUT /\nK:c\n\nPUT /\nK:b\n\nPUT /x\n\n");
        KIT.due("M of a greater letter", Kit.ask(x, 2, "DELETE /\nM:1\n\n"), Kit.bare(412));
        KIT.due("N of the least letter", Kit.ask(x, 2, "DELETE /\nN:2\n\n"), Kit.bare(412));
        KIT.due("M that matches", Kit.ask(x, 2, "DELETE /\nM:2\nN:1\nL:1\n\nx"), Kit.bare(204));
        KIT.due("all letters go", Kit.ask(x, 2, "GET /\nV:c\n\n"), Kit.bare(404));
        KIT.due("other resources stay", Kit.ask(x, 2, "HEAD /x\n\n"), "200\nE:3\nK:a\nL:0\n\n");
        KIT.due("it does not vary again", Kit.ask(x, 2, "PUT /\nK:c\n\nHEAD /\n\n"),
                written(201, 4) + "200\nE:4\nK:c\nL:0\n\n");
    }

    private static void sixResources() {
        EdgeCache x = new EdgeCache(0);
        for (int i = 1; i <= 6; i++) {
            KIT.due("resource " + i, Kit.ask(x, 2, "PUT /" + i + "\n\n"), written(201, i));
        }
        KIT.due("a seventh", Kit.ask(x, 2, "PUT /7\n\n"), Kit.bare(507));
        KIT.due("a seventh with M", Kit.ask(x, 2, "PUT /7\nM:*\n\n"), Kit.bare(412));
        KIT.due("a seventh with a wrong letter", Kit.ask(x, 2, "PUT /7\nK:q\n\n"), Kit.bare(415));
        KIT.due("a new letter of the sixth", Kit.ask(x, 2, "PUT /6\nK:b\n\n"), written(201, 7));
        KIT.due("tag()", x.tag(), 7);
        Kit.ask(x, 2, "DELETE /3\n\n");
        KIT.due("a place again", Kit.ask(x, 2, "PUT /7\n\n"), written(201, 8));
        KIT.due("none again", Kit.ask(x, 2, "PUT /3\n\n"), Kit.bare(507));
    }
}
