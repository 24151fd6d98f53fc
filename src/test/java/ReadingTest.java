/** Promise 2: what feed takes, and which requests are refused. */
public final class ReadingTest {
    private static final Kit KIT = new Kit();

    public static void main(String[] args) {
        takenBytes();
        requestLines();
        paths();
        headerLines();
        lengths();
        chunks();
        longLines();
        limits();
        KIT.end();
    }

    private static void takenBytes() {
        EdgeCache x = new EdgeCache(0);
        KIT.due("feed(3)", x.feed(3, 65), 0);
        KIT.due("feed(-1)", x.feed(-1, 65), 0);
        KIT.due("feed(minimum)", x.feed(Integer.MIN_VALUE, 65), 0);
        KIT.due("feed of zeros", x.feed(2, 0), 0);
        // G E 0 T space 0 / LF: the zeros count for nothing.
        KIT.due("feed with zeros between", x.feed(2, 0x474500542000_2f0aL), 6);
        KIT.due("feed of one LF, the highest byte", x.feed(2, 0x0a00000000000000L), 1);
        KIT.due("the answer", Kit.read(x, 2), Kit.bare(404));
        KIT.due("open(2)", x.open(2), true);
        KIT.dueTaken("\n\n\nGET /\n\n", 404);
        KIT.dueTaken("GET /\n", 0);
        KIT.due("bytes above 127 in a body", Kit.ask(bodyOf("\u00ff\u0080\n\u0001"), 2, "GET /\n\n"),
                "200\nE:1\nK:a\nL:4\n\n\u00ff\u0080\n\u0001");
    }

    private static EdgeCache bodyOf(String body) {
        EdgeCache x = new EdgeCache(0);
        Kit.ask(x, 2, "PUT /\nL:" + body.length() + "\n\n" + body);
        return x;
    }

    private static void requestLines() {
        String[] good = {"GET /", "HEAD /", "DELETE /", "GET /!~", "GET /%2f", "GET /%2F%aF"};
        for (String line : good) {
            KIT.dueTaken(line + "\n\n", 404);
        }
        KIT.dueTaken("PUT /\n\n", 201);
        String[] wrong = {"get /", "POST /", "GE /", "GETT /", "GET", "GET ", "GET  /", " GET /", "GET /a b", "GET / ",
            "GET a", "GET ?", "GET %2f", "GET /%", "GET /%2", "GET /%2g", "GET /%g2", "GET /%%41", "GET /a%4",
            "GET /\u007f", "GET /\u001f", "GET /\u00e9", "GET /\r", "GET\t/", "X", " "};
        for (String line : wrong) {
            KIT.dueRefused(line + "\n", 400);
        }
        KIT.dueRefused("GET /12345678\n", 414);
        KIT.dueTaken("GET /1234567\n\n", 404);
        KIT.dueRefused("GET /%25%25%25\n", 414);
        KIT.dueTaken("GET /%41%42%43\n\n", 404);
    }

    private static void duePair(int value) {
        String pair = String.format("%%%02x", value);
        String meant = "" + (char) value;
        if (value < 128 && meant.matches("[A-Za-z0-9._~-]")) {
            KIT.duePath("/a" + pair, "/a" + meant);
            return;
        }
        KIT.duePath("/a" + pair, "/a" + pair.toUpperCase());
        KIT.duePath("/a" + pair.toUpperCase(), "/a" + pair);
        if (value > 32 && value < 127 && value != '%') {
            KIT.dueOtherPath("/a" + pair, "/a" + meant);
        }
    }

    private static void paths() {
        String[] targets = {
            "/%41%7a%30", "/Az0", "/%2d%2E%5f%7E", "/-._~", "/%3f%2f", "/%3F%2F", "/a?%41%2f", "/a?A%2F",
            "/.", "/", "/..", "/", "/./", "/", "/../a", "/a", "/a/.", "/a/", "/a/..", "/", "/a/./b", "/a/b",
            "/a/../b", "/b", "/a/b/..", "/a/", "/a/b/../..", "/", "/a/../../b", "/b", "/%2e%2E/a", "/a",
            "/a//../b", "/a/b", "/a//b/..", "/a//", "/...", "/...", "/.b/..c", "/.b/..c",
            "/a/..?x/..", "/?x/..", "/.?", "/?", "/a/../?", "/?", "/a/b/c/../..", "/a/",
            "/123/56/89/..", "/123/56/", "//../..//a", "//a"};
        for (int i = 0; i < targets.length; i += 2) {
            KIT.duePath(targets[i], targets[i + 1]);
        }
        for (int value = 0; value < 256; value++) {
            duePair(value);
        }
        KIT.dueOtherPath("//", "/");
        KIT.dueOtherPath("/A", "/a");
        KIT.dueOtherPath("/a/", "/a");
        KIT.dueOtherPath("/a?", "/a");
        KIT.dueOtherPath("/%2f", "//");
        KIT.dueOtherPath("/%3f", "/?");
        KIT.dueOtherPath("/%2541", "/A");
        KIT.dueOtherPath("/?b/../c", "/?c");
    }

    private static void headerLines() {
        String eight = "A:\nB:\nD:\nE:\nF:\nG:\nH:\nJ:\n";
        KIT.dueTaken("GET /\n" + eight + "\n", 404);
        KIT.dueRefused("GET /\n" + eight + "O:\n", 431);
        KIT.dueRefused("GET /\n" + eight + "x\n", 431);
        KIT.dueRefused("GET /\nA:\nA:\nA:\nA:\nA:\nA:\nA:\nA:\nA:\n", 431);
        String[] wrong = {"a:1", "1:1", ":1", "A", "A 1", "A1:", "AB:1", " A:1", "A:\u001f", "A:\u007f", "A:\u00ff", "A:\t",
            "A:123456789\u007f", "[:1", "@:1", "A"};
        for (String line : wrong) {
            KIT.dueRefused("GET /\n" + line + "\n", 400);
        }
        KIT.dueTaken("GET /\nA: ~:,*%?x\n\n", 404);
        KIT.dueTaken("GET /\nA:12345678\nZ:\n\n", 404);
        KIT.dueRefused("GET /\nA:123456789\n", 431);
        KIT.dueRefused("GET /\nL:123456789\n", 431);
        KIT.dueRefused("GET /\nL:12345678x\n", 431);
        EdgeCache y = new EdgeCache(0);
        KIT.due("eight lines in each of two requests", Kit.ask(y, 2, "GET /\n" + eight + "\nGET /\n" + eight + "\n"),
                Kit.bare(404) + Kit.bare(404));
        KIT.due("nine in the third", Kit.ask(y, 2, "GET /\n" + eight + "A:\n"), Kit.bare(431));
        EdgeCache x = new EdgeCache(0);
        KIT.due("the last K counts", Kit.ask(x, 2, "PUT /\nK:z\nK:b\nP:s1\nP:s2\n\n"), "201\nE:1\nL:0\n\n");
        KIT.due("the last P, M and N count", Kit.ask(x, 2, "GET /\nM:2\nM:1\nN:1\nN:2\nV:c\nV:b\n\n"),
                "200\nE:1\nK:b\nP:s2\nL:0\n\n");
    }

    private static void lengths() {
        String[] wrong = {"", "x", "-1", "+1", "1x", "001", " 1", "1 ", "1,1", "100", "1/", "0:"};
        for (String value : wrong) {
            KIT.dueRefused("PUT /\nL:" + value + "\n", 400);
        }
        KIT.dueRefused("PUT /\nL:1\nL:2\n", 400);
        KIT.dueTaken("PUT /\nL:1\nL:01\nL:1\n\nx", 201);
        KIT.dueTaken("PUT /\nL:1\n\n", 0);
        KIT.dueTaken("PUT /\nL:0\n\n", 201);
        KIT.dueTaken("PUT /\nL:00\n\n", 201);
        KIT.dueTaken("PUT /\nL:8\n\n12345678", 201);
        KIT.dueRefused("PUT /\nL:9\n\n", 413);
        KIT.dueRefused("GET /\nL:99\n\n", 413);
        KIT.dueRefused("DELETE /\nL:09\n\n", 413);
        KIT.dueRefused("PUT /\nL:0\nT:c\n\n", 400);
        KIT.dueRefused("PUT /\nT:c\nL:99\n\n", 400);
        String[] wrongCodings = {"", "C", "cc", "c ", " c", "1"};
        for (String value : wrongCodings) {
            KIT.dueRefused("PUT /\nT:" + value + "\n", 400);
        }
        EdgeCache x = new EdgeCache(0);
        KIT.due("a body that looks like requests", Kit.ask(x, 2, "GET /\nL:7\n\nGET /\n\nGET /\nL:2\n\n\n\nDELETE /\n\n"),
                Kit.bare(404) + Kit.bare(404) + Kit.bare(404));
    }

    private static void chunks() {
        EdgeCache x = new EdgeCache(0);
        KIT.due("chunks", Kit.ask(x, 2, "PUT /\nT:c\nT:c\n\n3\na\nb\n5\ncdefg\n0\nX\nQ:12345678901\n\n"), "201\nE:1\nL:0\n\n");
        KIT.due("the body of chunks", Kit.ask(x, 2, "GET /\n\n"), "200\nE:1\nK:a\nL:8\n\na\nbcdefg");
        KIT.due("no chunk", Kit.ask(x, 2, "PUT /\nT:c\n\n0\n\n"), "204\nE:2\nL:0\n\n");
        KIT.due("chunks of a GET", Kit.ask(x, 2, "GET /\nT:c\n\n1\n\n\n0\n\n"), "200\nE:2\nK:a\nL:0\n\n");
        KIT.dueTaken("PUT /\nT:c\n\n0\n", 0);
        KIT.dueTaken("PUT /\nT:c\n\n8\n12345678\n0\n\n", 201);
        String[] wrong = {"", "x", "g", "G", "00", "01", "1 ", " 1", "-", "1;a", "\u00b1"};
        for (String line : wrong) {
            KIT.dueRefused("PUT /\nT:c\n\n" + line + "\n", 400);
        }
        for (String digit : new String[] {"9", "a", "A", "f", "F"}) {
            KIT.dueRefused("PUT /\nT:c\n\n" + digit + "\n", 413);
        }
        KIT.dueRefused("PUT /\nT:c\n\n4\n1234\n5\n", 413);
        KIT.dueRefused("GET /\nT:c\n\n8\n12345678\n1\n", 413);
        KIT.dueRefused("PUT /\nT:c\n\n2\nabc", 400);
        KIT.dueRefused("PUT /\nT:c\n\n2\n\n\n\r", 400);
    }

    private static void longLines() {
        String twenty = "12345678901234567890";
        KIT.dueRefused(twenty + "1", 431);
        KIT.dueRefused(twenty + "\n", 400);
        KIT.dueRefused("GET /" + twenty.substring(4), 431);
        KIT.dueRefused("GET /aaaaaaaaaaaaaaa\n", 414);
        KIT.dueTaken("GET /aaaa/../bbbb/.\n\n", 404);
        KIT.dueRefused("GET /\n" + twenty + "1", 431);
        KIT.dueRefused("GET /\n" + twenty + "\n", 400);
        KIT.dueRefused("GET /\nA:" + twenty.substring(2) + "\n", 431);
        KIT.dueRefused("PUT /\nT:c\n\n" + twenty + "1", 431);
        KIT.dueRefused("PUT /\nT:c\n\n" + twenty + "\n", 400);
        KIT.dueRefused("PUT /\nT:c\n\n0\n" + twenty + "1", 431);
        KIT.dueTaken("PUT /\nT:c\n\n0\n" + twenty + "\n\n", 201);
        KIT.dueTaken("PUT /\nT:c\n\n0\n1\n2\n3\n4\n5\n6\n7\n8\n9\n10\n\n", 201);
    }

    private static void limits() {
        EdgeCache x = new EdgeCache(0);
        for (int i = 0; i < 20; i++) {
            KIT.due("request " + i, Kit.send(x, 2, "GET /\n\n"), 7);
            Kit.read(x, 2);
        }
        KIT.due("the first byte after 20 requests", x.feed(2, '\n'), 0);
        KIT.due("open(2) after 20 requests", x.open(2), true);

        EdgeCache y = new EdgeCache(0);
        String four = "GET /\n\nGET /\n\nGET /\n\nGET /\n\n";
        KIT.due("four without an answer", Kit.send(y, 0, four + "GET /"), four.length());
        KIT.due("waiting(0)", y.waiting(0), 4);
        KIT.due("the other connection", Kit.send(y, 1, "GET /\n\n"), 7);
        y.origin(1);
        y.arrive(1);
        KIT.due("the second answer waits for the first", y.waiting(0), 4);
        KIT.due("feed then", y.feed(0, '\n'), 0);
        y.origin(0);
        y.arrive(0);
        KIT.due("waiting(0) after the first", y.waiting(0), 2);
        KIT.due("a refused one behind them", Kit.send(y, 0, "X\n"), 2);
        KIT.due("waiting(0) with the refused one", y.waiting(0), 3);
        KIT.due("open(0)", y.open(0), false);
        fullOutput();
    }

    private static void fullOutput() {
        EdgeCache x = new EdgeCache(0);
        Kit.send(x, 2, "GET /x\n\nGET /x\n\n" + Kit.put("/", "a", "", "1234567"));
        for (int i = 0; i < 7; i++) {
            Kit.send(x, 2, "GET /\n\n");
        }
        KIT.due("pending(2)", x.pending(2), 199);
        KIT.due("feed at 199", Kit.send(x, 2, "X\n"), 2);
        KIT.due("pending(2) above 200", x.pending(2), 208);

        EdgeCache y = new EdgeCache(0);
        Kit.send(y, 2, Kit.put("/", "a", "", "12345"));
        for (int i = 0; i < 4; i++) {
            Kit.send(y, 2, "GET /\n\n");
        }
        for (int i = 0; i < 11; i++) {
            Kit.send(y, 2, "GET /x\n\n");
        }
        KIT.due("pending(2)", y.pending(2), 200);
        KIT.due("feed at 200", y.feed(2, '\n'), 0);
        KIT.due("open(2) at 200", y.open(2), true);
        y.out(2);
        KIT.due("feed at 192", y.feed(2, '\n'), 1);
    }
}
