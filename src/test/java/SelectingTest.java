/** Promise 2: what selecting answers, at the origin and from the cache. */
public final class SelectingTest {
    private static final Kit KIT = new Kit();
    private static final String HEAD = "E:1\nK:a\nP:s99\n";

    public static void main(String[] args) {
        conditions();
        longTags();
        ranges();
        rangeConditions();
        emptyBody();
        fromCache();
        KIT.end();
    }

    private static EdgeCache withBody(String body) {
        EdgeCache x = new EdgeCache(300);
        Kit.ask(x, 2, Kit.put("/", "a", "s99", body));
        return x;
    }

    /** Asks the origin for /, with body abcdef, tag 1 and policy s99. */
    private static void due(String method, String headers, String want) {
        KIT.due(method + " with " + headers.replace("\n", "|"),
                Kit.ask(withBody("abcdef"), 2, method + " /\n" + headers + "\n"), want);
    }

    private static String whole() {
        return "200\n" + HEAD + "L:6\n\nabcdef";
    }

    private static void conditions() {
        for (String value : new String[] {"*", "1", "01", "00000001", "2,1", "1,x", ",1", "1,", "x,,1"}) {
            due("GET", "M:" + value + "\n", whole());
            due("GET", "N:" + value + "\n", "304\n" + HEAD + "\n");
            due("HEAD", "N:" + value + "\n", "304\n" + HEAD + "\n");
        }
        for (String value : new String[] {"", "2", "10", "11", " 1", "1 ", "-1", "+1", "**", "*,2", " *", "* ", "1x", ",", "\"1\"", "/", "0:", "1/"}) {
            due("GET", "M:" + value + "\n", Kit.bare(412));
            due("HEAD", "M:" + value + "\n", Kit.bare(412));
            due("GET", "N:" + value + "\n", whole());
        }
        due("GET", "M:2\nN:1\n", Kit.bare(412));
        due("GET", "M:1\nN:1\nR:0-1\n", "304\n" + HEAD + "\n");
        due("GET", "M:2\nR:9-\n", Kit.bare(412));
        due("HEAD", "", "200\n" + HEAD + "L:6\n\n");
        due("HEAD", "R:0-1\n", "200\n" + HEAD + "L:6\n\n");
        due("HEAD", "R:9-\n", "200\n" + HEAD + "L:6\n\n");
        due("GET", "C:na0\nK:b\nP:x\nV:b\nA:1\nZ:\n", whole());
        EdgeCache x = new EdgeCache(0);
        Kit.ask(x, 2, "PUT /\nL:1\n\nx");
        KIT.due("304 without a policy", Kit.ask(x, 2, "GET /\nN:1\n\n"), "304\nE:1\nK:a\n\n");
        Kit.ask(x, 2, "PUT /\nK:b\nL:1\n\nx");
        KIT.due("304 that varies", Kit.ask(x, 2, "GET /\nN:2\nV:b\n\n"), "304\nE:2\nK:b\nY:V\n\n");
        KIT.due("206 that varies", Kit.ask(x, 2, "GET /\nR:0-\nV:b\n\n"), "206\nE:2\nK:b\nY:V\nR:0-0/1\nL:1\n\nx");
    }

    private static void longTags() {
        EdgeCache x = new EdgeCache(0);
        for (int i = 1; i <= 12; i++) {
            Kit.ask(x, 2, "PUT /\nL:2\n\n" + (10 + i));
        }
        String whole = "200\nE:12\nK:a\nL:2\n\n22";
        KIT.due("M of two digits", Kit.ask(x, 2, "GET /\nM:3,12\n\n"), whole);
        KIT.due("M with a sign behind the digits", Kit.ask(x, 2, "GET /\nM:1:\n\n"), Kit.bare(412));
        KIT.due("N of other numbers", Kit.ask(x, 2, "GET /\nN:1,2,112\n\n"), whole);
        KIT.due("N of two digits", Kit.ask(x, 2, "GET /\nN:1,012\n\n"), "304\nE:12\nK:a\n\n");
        KIT.due("I of two digits", Kit.ask(x, 2, "GET /\nI:12\nR:-1\n\n"), "206\nE:12\nK:a\nR:1-1/2\nL:1\n\n2");
    }

    private static void duePart(String range, String span, String body) {
        due("GET", "R:" + range + "\n", "206\n" + HEAD + "R:" + span + "/6\nL:" + body.length() + "\n\n" + body);
    }

    private static void duePieces(String range, String body) {
        due("GET", "R:" + range + "\n", "206\n" + HEAD + "R:2\nL:" + body.length() + "\n\n" + body);
    }

    private static void ranges() {
        duePart("0-0", "0-0", "a");
        duePart("1-3", "1-3", "bcd");
        duePart("5-5", "5-5", "f");
        duePart("0-5", "0-5", "abcdef");
        duePart("2-99", "2-5", "cdef");
        duePart("02-003", "2-3", "cd");
        duePart("3-", "3-5", "def");
        duePart("0-", "0-5", "abcdef");
        duePart("-1", "5-5", "f");
        duePart("-6", "0-5", "abcdef");
        duePart("-9999999", "0-5", "abcdef");
        duePart("6-,-1", "5-5", "f");
        duePart("1-1,6-9", "1-1", "b");
        duePart("-0,0-0", "0-0", "a");
        duePieces("0-1,3-4", "0-1=ab\n3-4=de\n");
        duePieces("3-4,0-1", "3-4=de\n0-1=ab\n");
        duePieces("0-,-6", "0-5=abcdef\n0-5=abcdef\n");
        duePieces("-1,-1", "5-5=f\n5-5=f\n");
        for (String none : new String[] {"6-", "6-6", "99-100", "-0", "-00", "6-,7-8", "-0,-0", "9999999-"}) {
            due("GET", "R:" + none + "\n", "416\nR:*/6\nL:0\n\n");
        }
        String[] ignored = {"", "-", "1", "a-b", "3-1", "1-0", "0-1,", ",0-1", "0-1,3-2", "3-2,0-1", "0-,1-,2-", "--1", "1--2",
            "1-2-3", "0-1;2-3", " 0-1", "0-1 ", "0 -1", "0-x", "x-1", "-x", "x-", "0-1, 2-3", "9-8", ",", "0-0,x"};
        for (String range : ignored) {
            due("GET", "R:" + range + "\n", whole());
        }
    }

    private static void rangeConditions() {
        String part = "206\n" + HEAD + "R:0-0/6\nL:1\n\na";
        due("GET", "R:0-0\nI:1\n", part);
        due("GET", "R:0-0\nI:0001\n", part);
        for (String value : new String[] {"", "2", "*", "1,2", "1,1", "x", " 1", "11"}) {
            due("GET", "R:0-0\nI:" + value + "\n", whole());
            due("GET", "R:9-\nI:" + value + "\n", whole());
        }
        due("GET", "I:1\n", whole());
    }

    private static void emptyBody() {
        for (String range : new String[] {"0-", "0-0", "-1", "-0", "0-,-1"}) {
            KIT.due("an empty body with " + range, Kit.ask(withBody(""), 2, "GET /\nR:" + range + "\n\n"),
                    "416\nR:*/0\nL:0\n\n");
        }
        KIT.due("an empty body", Kit.ask(withBody(""), 2, "GET /\n\n"), "200\n" + HEAD + "L:0\n\n");
    }

    private static void fromCache() {
        EdgeCache x = withBody("abcdef");
        KIT.due("a part that arrives", Kit.fetch(x, 0, "GET /\nR:1-2\n\n"), "206\n" + HEAD + "R:1-2/6\nL:2\n\nbc");
        x.pass(5);
        KIT.due("200 from the cache", Kit.ask(x, 0, "GET /\n\n"), "200\n" + HEAD + "A:5\nL:6\n\nabcdef");
        KIT.due("HEAD from the cache", Kit.ask(x, 1, "HEAD /\nR:1-2\n\n"), "200\n" + HEAD + "A:5\nL:6\n\n");
        KIT.due("206 from the cache", Kit.ask(x, 0, "GET /\nR:1-2\n\n"), "206\n" + HEAD + "A:5\nR:1-2/6\nL:2\n\nbc");
        KIT.due("pieces from the cache", Kit.ask(x, 0, "GET /\nR:0-0,-1\n\n"),
                "206\n" + HEAD + "A:5\nR:2\nL:12\n\n0-0=a\n5-5=f\n");
        KIT.due("304 from the cache", Kit.ask(x, 1, "GET /\nN:1\n\n"), "304\n" + HEAD + "A:5\n\n");
        KIT.due("416 from the cache", Kit.ask(x, 0, "GET /\nR:6-\n\n"), "416\nR:*/6\nL:0\n\n");
        KIT.due("412 from the cache", Kit.ask(x, 1, "GET /\nM:2\n\n"), Kit.bare(412));
        KIT.due("queue()", x.queue() + x.upstream(0), 0);
    }
}
