/** 'READING A CONNECTION': each sentence that names a boundary, on both sides of it. */
public final class ReadingEdgesTest {
    private static final Kit KIT = new Kit();
    private static final String TWENTY = "12345678901234567890";
    private static final String EIGHT_LINES = "A:\nB:\nD:\nE:\nF:\nG:\nH:\nJ:\n";
    private static final String CHUNKED = "PUT /\nT:c\n\n";

    public static void main(String[] args) {
        bytes();
        judgedAtItsLf();
        twentyFirstByte();
        emptyLines();
        methodAndSpace();
        targetBytes();
        hexadecimalDigits();
        decodedPairs();
        firstQuestionMark();
        oneDot();
        twoDots();
        emptySegments();
        dotsAtTheEnd();
        longPaths();
        eightHeaderLines();
        headerForm();
        emptyValues();
        blanksInValues();
        longValues();
        lengthDigits();
        sameLength();
        coding();
        lastValueCounts();
        otherLetters();
        lengthAndCoding();
        lengthAboveEight();
        bodies();
        chunkDigit();
        chunksTogether();
        endOfChunk();
        trailers();
        bodyOfOthers();
        refused();
        KIT.end();
    }

    private static void bytes() {
        KIT.sentence("A byte is 1 .. 255; LF is 10.");
        EdgeCache x = new EdgeCache(0);
        KIT.due("feed with the zero byte first", x.feed(2, 0x00505554202f0aL), 6);
        Kit.send(x, 2, "L:4\n\n");
        KIT.due("feed of 1, 0, 255, 9, 11", x.feed(2, 0x0100ff090bL), 4);
        Kit.read(x, 2);
        KIT.due("the body", Kit.ask(x, 2, "GET /\n\n"), "200\nE:1\nK:a\nL:4\n\n\u0001\u00ff\t\u000b");
        KIT.dueRefused("GET /\t\n", 400);
        KIT.dueRefused("GET /\u000b\n", 400);
    }

    private static void judgedAtItsLf() {
        KIT.sentence("A LINE is all bytes before an LF; it is judged when its LF comes");
        String[] lines = {"x", "GET /12345678", "GET /\nx", "GET /\nL:x", "GET /\n" + EIGHT_LINES + "O:", CHUNKED + "x", CHUNKED + "9"};
        int[] statuses = {400, 414, 400, 400, 431, 400, 413};
        for (int i = 0; i < lines.length; i++) {
            KIT.dueTaken(lines[i], 0);
            KIT.dueRefused(lines[i] + "\n", statuses[i]);
        }
    }

    private static void twentyFirstByte() {
        KIT.sentence("a line with 21 bytes and no LF yet is refused with 431 (at the 21st)");
        for (String before : new String[] {"", "\n\n", "GET /\n", "GET /\nA:12345678\n", CHUNKED, CHUNKED + "1\nx\n"}) {
            KIT.dueTaken(before + TWENTY, 0);
            KIT.dueRefused(before + TWENTY + "1", 431);
            KIT.dueRefused(before + TWENTY + "\n", 400);
        }
        EdgeCache x = new EdgeCache(0);
        KIT.due("21 bytes behind a request", Kit.send(x, 2, "GET /\n\n\n" + TWENTY + "12"), 29);
        KIT.due("the answers", Kit.read(x, 2), Kit.bare(404) + Kit.bare(431));
        for (String before : new String[] {CHUNKED + "0\n", CHUNKED + "0\n" + TWENTY + "\n"}) {
            KIT.dueTaken(before + TWENTY, 0);
            KIT.dueTaken(before + TWENTY + "\n\n", 201);
            KIT.dueRefused(before + TWENTY + "1", 431);
        }
        KIT.dueTaken("DELETE /aaaaa/../bbb\n\n", 404);
        KIT.dueRefused("DELETE /aaaaaa/../bbb", 431);
        KIT.dueRefused(TWENTY + "\u0001", 431);
    }

    private static void emptyLines() {
        KIT.sentence("Where a request may begin, empty lines are skipped.");
        EdgeCache x = new EdgeCache(0);
        KIT.due("thirty empty lines", Kit.send(x, 2, "\n".repeat(30)), 30);
        KIT.due("pending(2) then", x.pending(2), 0);
        KIT.due("waiting(2) then", x.waiting(2), 0);
        KIT.due("a request behind them", Kit.ask(x, 2, "GET /\n\n"), Kit.bare(404));
        KIT.due("one behind a request", Kit.ask(x, 2, "\nGET /\n\n"), Kit.bare(404));
        KIT.due("two behind a body", Kit.ask(x, 2, "PUT /\nL:1\n\nx\n\nDELETE /\n\n"), "201\nE:1\nL:0\n\n" + Kit.bare(204));
        KIT.due("one behind chunks", Kit.ask(x, 2, CHUNKED + "0\n\n\nDELETE /\n\n"), "201\nE:2\nL:0\n\n" + Kit.bare(204));
        KIT.dueRefused(" \n", 400);
        KIT.dueRefused("\r\n", 400);
        KIT.dueTaken("GET /\n\n", 404);
        KIT.dueRefused(CHUNKED + "\n", 400);
        KIT.dueTaken("PUT /\nL:2\n\n\n", 0);
        KIT.dueTaken("PUT /\nL:2\n\n\n\n", 201);
        EdgeCache y = new EdgeCache(0);
        for (int i = 0; i < 20; i++) {
            KIT.due("request " + i + " with an empty line before it", Kit.ask(y, 2, "\nGET /\n\n"), Kit.bare(404));
        }
    }

    private static void methodAndSpace() {
        KIT.sentence("Request line: GET, HEAD, PUT or DELETE, one space, a TARGET");
        for (String method : new String[] {"GET", "HEAD", "DELETE", "PUT"}) {
            KIT.dueTaken(method + " /\n\n", method.equals("PUT") ? 201 : 404);
            KIT.dueRefused(method + "\n", 400);
            KIT.dueRefused(method + " \n", 400);
            KIT.dueRefused(method + "/\n", 400);
            KIT.dueRefused(method + "  /\n", 400);
            KIT.dueRefused(method + "\t/\n", 400);
            KIT.dueRefused(method + " / \n", 400);
            KIT.dueRefused(method + "X /\n", 400);
            KIT.dueRefused(method.substring(1) + " /\n", 400);
            KIT.dueRefused(method.toLowerCase() + " /\n", 400);
            KIT.dueRefused(" " + method + " /\n", 400);
        }
        KIT.dueRefused(" /\n", 400);
        KIT.dueRefused("/\n", 400);
        KIT.dueRefused("POST /\n", 400);
    }

    private static void targetBytes() {
        KIT.sentence("a TARGET of bytes 33 .. 126 that begins with /");
        for (int value : new int[] {33, 34, 125, 126}) {
            KIT.dueTaken("GET /" + (char) value + "a\n\n", 404);
            KIT.dueTaken("GET /a" + (char) value + "\n\n", 404);
            KIT.dueRefused("GET " + (char) value + "/\n", 400);
        }
        for (int value : new int[] {1, 31, 32, 127, 128, 175, 255}) {
            KIT.dueRefused("GET /" + (char) value + "a\n", 400);
            KIT.dueRefused("GET /a" + (char) value + "\n", 400);
            KIT.dueRefused("GET /?" + (char) value + "\n", 400);
        }
        KIT.dueTaken("GET /\n\n", 404);
        KIT.dueRefused("GET a\n", 400);
        KIT.dueRefused("GET .\n", 400);
        KIT.dueRefused("GET 0\n", 400);
        KIT.dueRefused("GET ?/\n", 400);
        KIT.dueRefused("GET %2f\n", 400);
    }

    private static void hexadecimalDigits() {
        KIT.sentence("each % has two hexadecimal digits (0 .. 9, A .. F, a .. f) right behind it, otherwise it is refused with 400");
        for (char digit : "09AFaf".toCharArray()) {
            KIT.dueTaken("GET /%" + digit + "1\n\n", 404);
            KIT.dueTaken("GET /%1" + digit + "\n\n", 404);
            KIT.dueTaken("GET /?%" + digit + digit + "\n\n", 404);
        }
        for (char other : "/:@G`g%?-".toCharArray()) {
            KIT.dueRefused("GET /%" + other + "1\n", 400);
            KIT.dueRefused("GET /%1" + other + "\n", 400);
            KIT.dueRefused("GET /?%1" + other + "\n", 400);
        }
        for (String target : new String[] {"/%", "/%4", "/a%", "/a%4", "/%41%", "/%41%4", "/?%", "/?%4", "/%4%41", "/%%4141"}) {
            KIT.dueRefused("GET " + target + "\n", 400);
        }
        KIT.dueTaken("GET /%41\n\n", 404);
        KIT.dueTaken("GET /%41%41\n\n", 404);
        KIT.dueTaken("GET /%411\n\n", 404);
    }

    private static void decodedPairs() {
        KIT.sentence("every % with two digits that stands for a letter, a digit or one of - . _ ~ becomes that byte,"
                + " in the others the digits' letters become capitals");
        for (char plain : "AZaz09-._~".toCharArray()) {
            KIT.duePath("/x" + String.format("%%%02x", (int) plain), "/x" + plain);
            KIT.duePath("/x" + String.format("%%%02X", (int) plain), "/x" + plain);
        }
        for (char other : "@[`{/:,^}!?+".toCharArray()) {
            KIT.duePath("/x" + String.format("%%%02x", (int) other), "/x" + String.format("%%%02X", (int) other));
            KIT.dueOtherPath("/x" + String.format("%%%02x", (int) other), "/x" + other);
        }
        for (String pair : new String[] {"%00", "%0a", "%1f", "%20", "%7f", "%80", "%c1", "%ff", "%fA"}) {
            KIT.duePath("/" + pair, "/" + pair.toUpperCase());
            KIT.duePath("/" + pair.toUpperCase(), "/" + pair.toLowerCase());
        }
        KIT.dueOtherPath("/%5b", "/&5B");
        KIT.dueOtherPath("/%5b", "/$5B");
        KIT.dueOtherPath("/%5b", "/5B");
        KIT.duePath("/%2541", "/%2541");
        KIT.dueOtherPath("/%2541", "/A");
        KIT.dueOtherPath("/%2541", "/%41");
        KIT.duePath("/?%61%2f", "/?a%2F");
        KIT.dueOtherPath("/a", "/A");
    }

    private static void firstQuestionMark() {
        KIT.sentence("then the part before the first ? (all, if there is none)");
        KIT.duePath("/a/../?b/../c", "/?b/../c");
        KIT.dueOtherPath("/?b/../c", "/?c");
        KIT.duePath("/a/..?/./?..", "/?/./?..");
        KIT.duePath("/./?", "/?");
        KIT.dueOtherPath("/?", "/");
        KIT.dueOtherPath("/?a", "/?b");
        KIT.dueOtherPath("/a?/..", "/");
        KIT.duePath("/a%3f/..", "/");
        KIT.duePath("/a/b/..", "/a/");
    }

    private static void oneDot() {
        KIT.sentence(". is left out");
        String[] targets = {"/./a", "/a", "/a/./b", "/a/b", "/a/.", "/a/", "/.", "/", "/./", "/", "/././a", "/a", "/a/././b", "/a/b",
            "/%2e/a", "/a", "/a/%2E", "/a/", "/.?q", "/?q"};
        duePaths(targets);
        for (String target : new String[] {"/.a", "/a.", "/a./b", "/a/.b", "/...", "/.%2f"}) {
            KIT.duePath("/./" + target.substring(1), target);
        }
        KIT.dueOtherPath("/.a", "/a");
        KIT.dueOtherPath("/a./b", "/a/b");
        KIT.dueOtherPath("/a.", "/a/");
    }

    private static void duePaths(String[] targets) {
        for (int i = 0; i < targets.length; i += 2) {
            KIT.duePath(targets[i], targets[i + 1]);
        }
    }

    private static void twoDots() {
        KIT.sentence(".. is left out together with the last one kept before it (if there is one)");
        String[] targets = {"/../a", "/a", "/../../a", "/a", "/a/../b", "/b", "/a/b/../c", "/a/c", "/a/../../b", "/b", "/a/b/../../c", "/c",
            "/a/../b/../c", "/c", "/a/./../b", "/b", "/.././a", "/a", "/a/b/..", "/a/", "/a/..", "/", "/..", "/", "/../..", "/",
            "/a/b/c/../..", "/a/", "/a/b/../..", "/", "/a/%2e%2E/b", "/b", "/a/.%2e/b", "/b", "/a/..?q", "/?q"};
        duePaths(targets);
        for (String target : new String[] {"/..a", "/a../b", "/a/b..", "/a/...", "/a/..%2f"}) {
            KIT.duePath("/x/../" + target.substring(1), target);
        }
        KIT.dueOtherPath("/a/b..", "/a/");
        KIT.dueOtherPath("/a/...", "/");
        KIT.dueOtherPath("/a/b/../c", "/c");
    }

    private static void emptySegments() {
        KIT.sentence("others are kept, also empty ones");
        KIT.dueOtherPath("//", "/");
        KIT.dueOtherPath("//a", "/a");
        KIT.dueOtherPath("/a//b", "/a/b");
        KIT.dueOtherPath("/a/", "/a");
        KIT.dueOtherPath("///", "//");
        KIT.duePath("/.//", "//");
        KIT.duePath("/a//../b", "/a/b");
        KIT.duePath("//..", "/");
        KIT.duePath("//../a", "/a");
        KIT.duePath("///..", "//");
        KIT.duePath("/a//../../b", "/b");
    }

    private static void dotsAtTheEnd() {
        KIT.sentence("if sn was . or .. an empty one is kept at the end");
        String[] targets = {"/a/.", "/a/", "/a/b/..", "/a/", "/a/./", "/a/", "/a/b/../", "/a/", "/a/../", "/", "/.", "/", "/..", "/",
            "/a/.?q", "/a/?q", "/a/b/..?q", "/a/?q", "/a//..", "/a/", "/a/./.", "/a/"};
        duePaths(targets);
        KIT.dueOtherPath("/a/.", "/a");
        KIT.dueOtherPath("/a/b/..", "/a");
        KIT.dueOtherPath("/a/./b", "/a/b/");
        KIT.dueOtherPath("/a/../b", "/b/");
        KIT.dueOtherPath("/a/.", "/a//");
    }

    private static void longPaths() {
        KIT.sentence("A path of more than 8 bytes: refused with 414.");
        String[] eight = {"/1234567", "/?345678", "/1/34/67", "/a/../1234567", "/%41234567", "/%2f5678", "/123456/.", "/123456/7/..",
            "/%2f%2F8", "////////"};
        String[] nine = {"/12345678", "/?3456789", "/1/34/678", "/a/../12345678", "/%412345678", "/%2f56789", "/1234567/.",
            "/1234567/8/..", "/%2f%2F89", "/////////"};
        for (int i = 0; i < eight.length; i++) {
            KIT.dueTaken("GET " + eight[i] + "\n\n", 404);
            KIT.dueRefused("GET " + nine[i] + "\n", 414);
        }
        KIT.dueTaken("PUT /1234567\n\n", 201);
        KIT.dueRefused("PUT /12345678\n", 414);
        KIT.dueTaken("GET /12345678/..\n\n", 404);
        KIT.dueRefused("GET /12345678 \n", 400);
        KIT.dueRefused("GET /12345678%\n", 400);
        KIT.dueRefused("XXX /12345678\n", 400);
    }

    private static void eightHeaderLines() {
        KIT.sentence("if there are 8 already, it is refused with 431; then, it must be");
        KIT.dueTaken("GET /\n" + EIGHT_LINES + "\n", 404);
        KIT.dueTaken("GET /\n" + "A:\n".repeat(8) + "\n", 404);
        KIT.dueTaken("PUT /\n" + "L:1\n".repeat(8) + "\nx", 201);
        KIT.dueRefused("GET /\n" + "A:\n".repeat(9), 431);
        for (String ninth : new String[] {"O:", "x", "L:", "L:x", "T:x", "A:123456789", " ", "A:\u00ff"}) {
            KIT.dueRefused("GET /\n" + EIGHT_LINES + ninth + "\n", 431);
        }
        for (String eighth : new String[] {"x", "L:", "T:x", " ", "A:\u00ff"}) {
            KIT.dueRefused("GET /\n" + EIGHT_LINES.substring(3) + eighth + "\n", 400);
        }
        EdgeCache x = new EdgeCache(0);
        KIT.due("eight in each of two requests", Kit.ask(x, 2, ("GET /\n" + EIGHT_LINES + "\n").repeat(2)), Kit.bare(404).repeat(2));
        KIT.due("eight and a body", Kit.ask(x, 2, "GET /\n" + EIGHT_LINES.substring(3) + "L:2\n\n\n\nGET /\n" + EIGHT_LINES + "\n"),
                Kit.bare(404).repeat(2));
        KIT.due("nine in the fifth", Kit.ask(x, 2, "GET /\n" + EIGHT_LINES + "O:\n"), Kit.bare(431));
    }

    private static void headerForm() {
        KIT.sentence("it must be a capital letter A .. Z, a colon, and a VALUE of bytes 32 .. 126");
        for (char letter : "ABYZ".toCharArray()) {
            KIT.dueTaken("GET /\n" + letter + ":1\n\n", 404);
            KIT.dueTaken("GET /\n" + letter + ":\n\n", 404);
            KIT.dueRefused("GET /\n" + letter + "\n", 400);
        }
        for (char other : "@[az0: `{".toCharArray()) {
            KIT.dueRefused("GET /\n" + other + ":1\n", 400);
        }
        for (char other : "9;A .".toCharArray()) {
            KIT.dueRefused("GET /\nA" + other + "1\n", 400);
        }
        for (int value : new int[] {32, 33, 125, 126}) {
            KIT.dueTaken("GET /\nA:" + (char) value + "1\n\n", 404);
            KIT.dueTaken("GET /\nA:1" + (char) value + "\n\n", 404);
        }
        for (int value : new int[] {1, 9, 31, 127, 128, 160, 255}) {
            KIT.dueRefused("GET /\nA:" + (char) value + "1\n", 400);
            KIT.dueRefused("GET /\nA:1" + (char) value + "\n", 400);
        }
    }

    /** What / answers on connection 2 with tag 1, policy s9 and body xyz. */
    private static void dueWith(String request, String want) {
        EdgeCache x = new EdgeCache(0);
        Kit.ask(x, 2, "PUT /\nP:s9\nL:3\n\nxyz");
        KIT.due("the answer to '" + request.replace("\n", "|") + "'", Kit.ask(x, 2, request), want);
    }

    private static void emptyValues() {
        KIT.sentence("all behind the colon, a blank, too; it may be empty");
        String whole = "200\nE:1\nK:a\nP:s9\nL:3\n\nxyz";
        dueWith("GET /\n\n", whole);
        dueWith("GET /\nM:\n\n", Kit.bare(412));
        dueWith("GET /\nM:1\n\n", whole);
        dueWith("GET /\nN:\n\n", whole);
        dueWith("GET /\nN:1\n\n", "304\nE:1\nK:a\nP:s9\n\n");
        dueWith("GET /\nR:\n\n", whole);
        dueWith("GET /\nR:0-0\n\n", "206\nE:1\nK:a\nP:s9\nR:0-0/3\nL:1\n\nx");
        dueWith("GET /\nR:0-0\nI:\n\n", whole);
        dueWith("GET /\nC:\nV:\nK:\nP:\nA:\n\n", whole);
        dueWith("PUT /\nK:\n\n", Kit.bare(415));
        dueWith("PUT /\nK:a\n\n", "204\nE:2\nL:0\n\n");
        dueWith("PUT /\nM:\n\n", Kit.bare(412));
        dueWith("PUT /\nP:\nL:3\n\nxyzGET /\n\n", "204\nE:1\nL:0\n\n200\nE:1\nK:a\nL:3\n\nxyz");
        dueWith("PUT /\nP:m\nL:3\n\nxyzGET /\n\n", "204\nE:1\nL:0\n\n200\nE:1\nK:a\nP:m\nL:3\n\nxyz");
        KIT.dueRefused("PUT /\nL:\n", 400);
        KIT.dueRefused("PUT /\nT:\n", 400);
    }

    private static void blanksInValues() {
        KIT.sentence("all behind the colon, a blank, too");
        dueWith("GET /\nM: 1\n\n", Kit.bare(412));
        dueWith("GET /\nM:1 \n\n", Kit.bare(412));
        dueWith("GET /\nM: *\n\n", Kit.bare(412));
        dueWith("GET /\nR: 0-0\n\n", "200\nE:1\nK:a\nP:s9\nL:3\n\nxyz");
        dueWith("PUT /\nK: a\n\n", Kit.bare(415));
        dueWith("PUT /\nP: s:9 \nL:3\n\nxyzHEAD /\n\n", "204\nE:1\nL:0\n\n200\nE:1\nK:a\nP: s:9 \nL:3\n\n");
        dueWith("PUT /\nP: \nL:3\n\nxyzHEAD /\n\n", "204\nE:1\nL:0\n\n200\nE:1\nK:a\nP: \nL:3\n\n");
        KIT.dueRefused("PUT /\nL: 1\n", 400);
        KIT.dueRefused("PUT /\nT: c\n", 400);
        KIT.dueTaken("PUT /\nL:1\n\nx", 201);
    }

    private static void longValues() {
        KIT.sentence("a value of more than 8 bytes: 431");
        for (char letter : "AMNRICVKPZ".toCharArray()) {
            KIT.dueTaken("GET /\n" + letter + ":12345678\n\n", 404);
            KIT.dueRefused("GET /\n" + letter + ":123456789\n", 431);
        }
        KIT.dueTaken("GET /\nA:        \n\n", 404);
        KIT.dueRefused("GET /\nA:         \n", 431);
        KIT.dueRefused("GET /\nA:123456789012345678\n", 431);
        KIT.dueRefused("GET /\nL:12345678\n", 400);
        KIT.dueRefused("GET /\nL:123456789\n", 431);
        KIT.dueRefused("GET /\nT:cccccccc\n", 400);
        KIT.dueRefused("GET /\nT:ccccccccc\n", 431);
        KIT.dueRefused("GET /\nA:12345678\u007f\n", 400);
        KIT.dueRefused("GET /\na:123456789\n", 400);
        EdgeCache x = new EdgeCache(0);
        Kit.ask(x, 2, "PUT /\nP:12345678\n\n");
        KIT.due("a value of eight bytes", Kit.ask(x, 2, "GET /\n\n"), "200\nE:1\nK:a\nP:12345678\nL:0\n\n");
    }

    private static void lengthDigits() {
        KIT.sentence("L: the value must be one or two digits");
        for (String value : new String[] {"0", "00", "1", "01", "8", "08"}) {
            int bytes = Integer.parseInt(value);
            KIT.dueTaken("PUT /\nL:" + value + "\n\n" + "x".repeat(bytes), 201);
            if (bytes > 0) {
                KIT.dueTaken("PUT /\nL:" + value + "\n\n" + "x".repeat(bytes - 1), 0);
            }
        }
        KIT.dueTaken("PUT /\nL:9\n", 0);
        KIT.dueTaken("PUT /\nL:99\n", 0);
        for (String value : new String[] {"", "000", "001", "008", "100", "/", ":", "1/", "1:", "/1", ":1", "x", "a", "1x", "-1", "+1", "1 "}) {
            KIT.dueRefused("PUT /\nL:" + value + "\n", 400);
            KIT.dueRefused("GET /\nL:" + value + "\n", 400);
        }
    }

    private static void sameLength() {
        KIT.sentence("and the same number as in an L before it, otherwise 400");
        KIT.dueTaken("PUT /\nL:1\nL:1\n\nx", 201);
        KIT.dueTaken("PUT /\nL:1\nA:\nL:01\n\nx", 201);
        KIT.dueTaken("PUT /\nL:00\nL:0\n\n", 201);
        KIT.dueTaken("PUT /\nL:9\nL:09\n", 0);
        KIT.dueRefused("PUT /\nL:1\nL:2\n", 400);
        KIT.dueRefused("PUT /\nL:1\nA:\nL:0\n", 400);
        KIT.dueRefused("PUT /\nL:0\nL:1\n", 400);
        KIT.dueRefused("PUT /\nL:1\nL:1\nL:2\n", 400);
        KIT.dueRefused("PUT /\nL:1\nL:10\n", 400);
        KIT.dueRefused("PUT /\nL:1\nL:\n", 400);
        EdgeCache x = new EdgeCache(0);
        KIT.due("another L in another request", Kit.ask(x, 2, "GET /\nL:1\n\nxGET /\nL:2\n\nxxGET /\nL:0\n\nGET /\n\n"),
                Kit.bare(404).repeat(4));
    }

    private static void coding() {
        KIT.sentence("T: the value must be c, otherwise 400.");
        KIT.dueTaken("PUT /\nT:c\n\n0\n\n", 201);
        KIT.dueTaken("PUT /\nT:c\nT:c\n\n0\n\n", 201);
        for (String value : new String[] {"", "b", "d", "C", "cc", "c ", " c", "c,c", "0"}) {
            KIT.dueRefused("PUT /\nT:" + value + "\n", 400);
            KIT.dueRefused("PUT /\nT:c\nT:" + value + "\n", 400);
        }
    }

    private static void lastValueCounts() {
        KIT.sentence("Of M, N, R, I, C, V, K, P the last value given counts.");
        String whole = "200\nE:1\nK:a\nP:s9\nL:3\n\nxyz";
        String part = "206\nE:1\nK:a\nP:s9\nR:0-0/3\nL:1\n\nx";
        dueWith("GET /\nM:2\nM:1\n\n", whole);
        dueWith("GET /\nM:1\nM:2\n\n", Kit.bare(412));
        dueWith("GET /\nM:1\nM:\n\n", Kit.bare(412));
        dueWith("GET /\nN:1\nN:2\n\n", whole);
        dueWith("GET /\nN:2\nN:1\n\n", "304\nE:1\nK:a\nP:s9\n\n");
        dueWith("GET /\nR:1-1\nR:0-0\n\n", part);
        dueWith("GET /\nR:0-0\nR:\n\n", whole);
        dueWith("GET /\nR:0-0\nI:2\nI:1\n\n", part);
        dueWith("GET /\nR:0-0\nI:1\nI:2\n\n", whole);
        dueWith("PUT /\nK:b\nK:a\n\n", "204\nE:2\nL:0\n\n");
        dueWith("PUT /\nK:a\nK:b\n\n", "201\nE:2\nL:0\n\n");
        dueWith("PUT /\nK:a\nK:\n\n", Kit.bare(415));
        dueWith("PUT /\nP:s1\nP:s2\n\nGET /\n\n", "204\nE:2\nL:0\n\n200\nE:2\nK:a\nP:s2\nL:0\n\n");
        dueWith("PUT /\nP:s1\nP:\n\nGET /\n\n", "204\nE:2\nL:0\n\n200\nE:2\nK:a\nL:0\n\n");
        dueWith("PUT /\nK:b\n\nHEAD /\nV:a\nV:b\n\n", "201\nE:2\nL:0\n\n200\nE:2\nK:b\nY:V\nL:0\n\n");
        dueWith("PUT /\nK:b\n\nHEAD /\nV:b\nV:\n\n", "201\nE:2\nL:0\n\n" + Kit.bare(406));
        for (String controls : new String[] {"C:n\nC:\n", "C:\nC:n\n"}) {
            EdgeCache x = new EdgeCache(300);
            Kit.ask(x, 2, "PUT /\nP:s9\n\n");
            Kit.fetch(x, 0, "GET /\n\n");
            KIT.due("an answer from the store with " + controls.replace("\n", "|"),
                    Kit.ask(x, 0, "GET /\n" + controls + "\n").isEmpty(), controls.endsWith("n\n"));
        }
        dueWith("GET /\nM:2\n\nGET /\n\n", Kit.bare(412) + whole);
    }

    private static void otherLetters() {
        KIT.sentence("Other letters mean nothing.");
        for (char letter : "ABDEFGHJOQSUWXYZ".toCharArray()) {
            dueWith("GET /\n" + letter + ":2\n" + letter + ":c\n\n", "200\nE:1\nK:a\nP:s9\nL:3\n\nxyz");
        }
        dueWith("GET /\nM:2\n\n", Kit.bare(412));
    }

    private static void lengthAndCoding() {
        KIT.sentence("L and T both given: refused with 400");
        for (String lines : new String[] {"L:0\nT:c\n", "T:c\nL:0\n", "T:c\nL:9\n", "L:8\nA:\nT:c\n", "L:99\nT:c\n"}) {
            KIT.dueTaken("PUT /\n" + lines, 0);
            KIT.dueRefused("PUT /\n" + lines + "\n", 400);
            KIT.dueRefused("GET /\n" + lines + "\n", 400);
        }
        KIT.dueTaken("PUT /\nL:0\n\n", 201);
        KIT.dueTaken("PUT /\nT:c\n\n0\n\n", 201);
        EdgeCache x = new EdgeCache(0);
        KIT.due("L and T in two requests", Kit.ask(x, 2, "GET /\nL:0\n\nGET /\nT:c\n\n0\n\nGET /\nL:0\n\n"), Kit.bare(404).repeat(3));
    }

    private static void lengthAboveEight() {
        KIT.sentence("else L above 8: 413 (whatever the method)");
        for (String method : new String[] {"GET", "HEAD", "PUT", "DELETE"}) {
            int status = method.equals("PUT") ? 201 : 404;
            KIT.dueTaken(method + " /\nL:8\n\n12345678", status);
            for (String length : new String[] {"9", "09", "10", "99"}) {
                KIT.dueTaken(method + " /\nL:" + length + "\n", 0);
                KIT.dueRefused(method + " /\nL:" + length + "\n\n", 413);
            }
        }
    }

    private static void bodies() {
        KIT.sentence("The BODY is L bytes of any kind (none without L and T)");
        KIT.dueTaken("PUT /\n\n", 201);
        KIT.dueTaken("PUT /\nL:0\n\n", 201);
        KIT.dueTaken("PUT /\nL:1\n\n", 0);
        KIT.dueTaken("PUT /\nL:1\n\n\n", 201);
        KIT.dueTaken("PUT /\nL:8\n\n1234567", 0);
        String any = "\n\n\u0001\u00ff\u007f\u0080 :";
        EdgeCache x = new EdgeCache(0);
        KIT.due("eight bytes of any kind", Kit.ask(x, 2, "PUT /\nL:8\n\n" + any + "GET /\n\n"),
                "201\nE:1\nL:0\n\n200\nE:1\nK:a\nL:8\n\n" + any);
        KIT.due("no body", Kit.ask(x, 2, "PUT /\n\nGET /\n\n"), "204\nE:2\nL:0\n\n200\nE:2\nK:a\nL:0\n\n");
        KIT.due("a body behind none", Kit.ask(x, 2, "PUT /\nL:1\n\nxGET /\n\n"), "204\nE:3\nL:0\n\n200\nE:3\nK:a\nL:1\n\nx");
    }

    private static void chunkDigit() {
        KIT.sentence("with T it is CHUNKS: a line of one hexadecimal digit n, otherwise 400");
        for (char digit : "12345678".toCharArray()) {
            KIT.dueTaken(CHUNKED + digit + "\n" + "x".repeat(digit - '0') + "\n0\n\n", 201);
            KIT.dueTaken(CHUNKED + digit + "\n" + "x".repeat(digit - '0'), 0);
        }
        for (char digit : "9ABCDEFabcdef".toCharArray()) {
            KIT.dueRefused(CHUNKED + digit + "\n", 413);
        }
        for (String line : new String[] {"", "/", ":", "@", "G", "`", "g", " ", "00", "01", "10", "1 ", " 1", "1;", "0x1", "\u00b1"}) {
            KIT.dueRefused(CHUNKED + line + "\n", 400);
            KIT.dueRefused(CHUNKED + "1\nx\n" + line + "\n", 400);
        }
    }

    private static void chunksTogether() {
        KIT.sentence("413 when the chunks so far and this one are more than 8 bytes");
        KIT.dueTaken(CHUNKED + "8\n12345678\n0\n\n", 201);
        KIT.dueTaken(CHUNKED + "4\n1234\n4\n5678\n0\n\n", 201);
        KIT.dueTaken(CHUNKED + "1\nx\n".repeat(8) + "0\n\n", 201);
        KIT.dueTaken(CHUNKED + "7\n1234567\n1\n", 0);
        KIT.dueRefused(CHUNKED + "9\n", 413);
        KIT.dueRefused(CHUNKED + "4\n1234\n5\n", 413);
        KIT.dueRefused(CHUNKED + "8\n12345678\n1\n", 413);
        KIT.dueRefused(CHUNKED + "1\nx\n".repeat(8) + "1\n", 413);
        KIT.dueRefused("GET /\nT:c\n\n8\n12345678\n1\n", 413);
        EdgeCache x = new EdgeCache(0);
        KIT.due("eight in each of two requests", Kit.ask(x, 2, (CHUNKED + "5\n12345\n3\n678\n0\n\n").repeat(2) + "GET /\n\n"),
                "201\nE:1\nL:0\n\n204\nE:1\nL:0\n\n200\nE:1\nK:a\nL:8\n\n12345678");
    }

    private static void endOfChunk() {
        KIT.sentence("then n bytes of any kind and an LF (another byte there: 400)");
        KIT.dueTaken(CHUNKED + "2\n\n\n\n0\n\n", 201);
        KIT.dueTaken(CHUNKED + "2\n\u0001\u00ff\n0\n\n", 201);
        KIT.dueTaken(CHUNKED + "1\n0\n", 0);
        for (String other : new String[] {"x", "\u0001", "\t", "\u000b", "\r", " ", "0", "\u00ff"}) {
            KIT.dueRefused(CHUNKED + "1\nx" + other, 400);
            KIT.dueRefused(CHUNKED + "1\n\n" + other, 400);
            KIT.dueRefused(CHUNKED + "4\n1234\n4\n5678" + other, 400);
        }
        EdgeCache x = new EdgeCache(0);
        KIT.due("chunks of any bytes", Kit.ask(x, 2, CHUNKED + "3\n\n0\n\n2\n\n\n\n0\n\nGET /\n\n"),
                "201\nE:1\nL:0\n\n200\nE:1\nK:a\nL:5\n\n\n0\n\n\n");
    }

    private static void trailers() {
        KIT.sentence("if n = 0: lines that mean nothing (but 431 as any line), up to an empty one, and the request is complete");
        KIT.dueTaken(CHUNKED + "0\n", 0);
        KIT.dueTaken(CHUNKED + "0\n\n", 201);
        KIT.dueTaken(CHUNKED + "0\nx\n", 0);
        KIT.dueTaken(CHUNKED + "0\nx\n\n", 201);
        KIT.dueTaken(CHUNKED + "0\n" + EIGHT_LINES + EIGHT_LINES + "\n", 201);
        KIT.dueTaken(CHUNKED + "0\nL:x\nT:x\nA:123456789\nK:z\nM:*\n\u00ff\u0001\n5\n\n", 201);
        KIT.dueTaken(CHUNKED + "0\n" + TWENTY + "\n\n", 201);
        KIT.dueRefused(CHUNKED + "0\n" + TWENTY + "1", 431);
        KIT.dueRefused(CHUNKED + "0\nx\n" + TWENTY + "1", 431);
        EdgeCache x = new EdgeCache(0);
        KIT.due("lines behind the chunks", Kit.ask(x, 2, CHUNKED + "1\nx\n0\nP:s9\n1\ny\n\nGET /\n\n"),
                "201\nE:1\nL:0\n\n200\nE:1\nK:a\nL:1\n\nx");
    }

    private static void bodyOfOthers() {
        KIT.sentence("The body of other requests than PUT means nothing.");
        String whole = "200\nE:1\nK:a\nP:s9\nL:3\n\nxyz";
        dueWith("GET /\nL:1\n\nq", whole);
        dueWith("GET /\nT:c\n\n1\nq\n0\n\n", whole);
        dueWith("HEAD /\nL:1\n\nqGET /\n\n", "200\nE:1\nK:a\nP:s9\nL:3\n\n" + whole);
        dueWith("DELETE /\nL:8\n\nPUT /\n\n\nGET /\n\n", Kit.bare(204) + Kit.bare(404));
        dueWith("PUT /\nP:s9\nL:1\n\nqGET /\n\n", "204\nE:2\nL:0\n\n200\nE:2\nK:a\nP:s9\nL:1\n\nq");
        dueWith("GET /\nL:1\n\nqPUT /\nP:s9\n\nGET /\n\n", whole + "204\nE:2\nL:0\n\n200\nE:2\nK:a\nP:s9\nL:0\n\n");
    }

    private static void refused() {
        KIT.sentence("the connection is shut: it takes no more bytes (what came before is still answered)");
        EdgeCache x = new EdgeCache(0);
        KIT.due("bytes taken", Kit.send(x, 0, "GET /\n\nGET /a\n\nX\nGET /\n\n"), 17);
        KIT.due("open(0)", x.open(0), false);
        KIT.due("open(1)", x.open(1), true);
        KIT.due("waiting(0)", x.waiting(0), 3);
        KIT.due("pending(0)", x.pending(0), 0);
        for (int u = 0; u < 2; u++) {
            x.origin(u);
            x.arrive(u);
        }
        KIT.due("the answers", Kit.read(x, 0), Kit.bare(404) + Kit.bare(404) + Kit.bare(400));
        KIT.due("feed after them", x.feed(0, '\n'), 0);
        KIT.due("feed(1)", x.feed(1, '\n'), 1);
        KIT.due("feed(2)", x.feed(2, '\n'), 1);
    }
}
