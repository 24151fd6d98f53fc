/** 'ANSWERS', 'NUMBERS IN A VALUE', matching and 'SELECTING': each sentence that names a boundary, on both sides of it. */
public final class AnswerEdgesTest {
    private static final Kit KIT = new Kit();

    public static void main(String[] args) {
        linesInOrder();
        lengthAlone();
        answersInOrder();
        missingNumbers();
        lastOfEqualLetters();
        otherBytes();
        star();
        digitPieces();
        withoutMatch();
        notModified();
        varyingAndPolicyLines();
        rangeCondition();
        onePieceOrTwo();
        notAbove();
        digitsInPieces();
        notBeyondTheLast();
        openPiece();
        lastBytes();
        noPieceLeft();
        onePieceLeft();
        twoPiecesLeft();
        wholeAnswer();
        head();
        KIT.end();
    }

    /** The answer on connection 2 for /, which has tag 1, no policy and the body. */
    private static void due(String body, String request, String want) {
        EdgeCache x = new EdgeCache(0);
        Kit.ask(x, 2, "PUT /\nL:" + body.length() + "\n\n" + body);
        KIT.due("the answer to '" + request.replace("\n", "|") + "' with the body " + body, Kit.ask(x, 2, request), want);
    }

    private static void dueRange(String body, String range, String want) {
        due(body, "GET /\nR:" + range + "\n\n", want);
    }

    private static String whole(String body) {
        return "200\nE:1\nK:a\nL:" + body.length() + "\n\n" + body;
    }

    private static String part(String span, String body) {
        return "206\nE:1\nK:a\nR:" + span + "\nL:" + body.length() + "\n\n" + body;
    }

    private static String none(int size) {
        return "416\nR:*/" + size + "\nL:0\n\n";
    }

    private static void linesInOrder() {
        KIT.sentence("its lines, each with an LF, those it has of E:tag, K:letter, Y:V, P:policy, A:age, R:range, L:length, in this order");
        EdgeCache x = new EdgeCache(300);
        Kit.ask(x, 2, "PUT /\nP:s99\nL:3\n\nxyzPUT /\nK:b\nP:s99\n\n");
        Kit.fetch(x, 0, "GET /\n\n");
        x.pass(12);
        KIT.due("all lines", Kit.ask(x, 0, "GET /\nR:1-\n\n"), "206\nE:1\nK:a\nY:V\nP:s99\nA:12\nR:1-2/3\nL:2\n\nyz");
        KIT.due("without R", Kit.ask(x, 0, "GET /\n\n"), "200\nE:1\nK:a\nY:V\nP:s99\nA:12\nL:3\n\nxyz");
        KIT.due("without R and L", Kit.ask(x, 0, "GET /\nN:*\n\n"), "304\nE:1\nK:a\nY:V\nP:s99\nA:12\n\n");
        due("xyz", "GET /\n\n", "200\nE:1\nK:a\nL:3\n\nxyz");
        due("", "GET /\n\n", "200\nE:1\nK:a\nL:0\n\n");
    }

    private static void lengthAlone() {
        KIT.sentence("Answers with another status than 200, 201, 204 (to a PUT), 206, 304, 416 have the line L:0 alone and no body.");
        due("x", "GET /q\n\n", "404\nL:0\n\n");
        due("x", "GET /\nM:2\n\n", "412\nL:0\n\n");
        due("x", "PUT /\nM:2\n\n", "412\nL:0\n\n");
        due("x", "PUT /\nK:q\n\n", "415\nL:0\n\n");
        due("x", "DELETE /\n\n", "204\nL:0\n\n");
        due("x", "PUT /\nL:1\n\nx", "204\nE:1\nL:0\n\n");
        due("x", "PUT /\nK:b\n\n", "201\nE:2\nL:0\n\n");
        due("x", "PUT /\nK:b\n\nGET /\nV:\n\n", "201\nE:2\nL:0\n\n406\nL:0\n\n");
        due("x", "q\n", "400\nL:0\n\n");
        due("x", "GET /\nL:9\n\n", "413\nL:0\n\n");
        due("x", "GET /12345678\n", "414\nL:0\n\n");
        due("x", "GET /aaaaaaaaaaaaaaaa", "431\nL:0\n\n");
        EdgeCache x = new EdgeCache(0);
        Kit.send(x, 0, "GET /\n\n");
        x.pass(10);
        KIT.due("the answer after 10 seconds", Kit.read(x, 0), "504\nL:0\n\n");
        for (int i = 0; i < 6; i++) {
            Kit.ask(x, 2, "PUT /" + i + "\n\n");
        }
        KIT.due("the answer to a seventh", Kit.ask(x, 2, "PUT /\n\n"), "507\nL:0\n\n");
    }

    private static void answersInOrder() {
        KIT.sentence("an answer that is ready waits until those before it have gone");
        EdgeCache x = new EdgeCache(0);
        Kit.send(x, 0, "GET /\n\nPUT /\nK:q\n\nGET /\n\nX\n");
        x.origin(1);
        x.arrive(1);
        KIT.due("pending(0) with the second ready", x.pending(0), 0);
        KIT.due("waiting(0) with the second ready", x.waiting(0), 4);
        x.origin(0);
        x.arrive(0);
        KIT.due("waiting(0) with the first two ready", x.waiting(0), 2);
        KIT.due("the first two", Kit.read(x, 0), Kit.bare(404) + Kit.bare(415));
        x.origin(1);
        x.arrive(1);
        KIT.due("waiting(0) with all ready", x.waiting(0), 0);
        KIT.due("the last two", Kit.read(x, 0), Kit.bare(404) + Kit.bare(400));
        Kit.send(x, 1, "GET /\n\nGET /\n\n");
        KIT.due("another connection does not wait", Kit.ask(x, 2, "GET /\n\n"), Kit.bare(404));
    }

    /** The letter that the origin chooses of a, b and c; 0 when none. */
    private static void dueChosen(String values, char want) {
        EdgeCache x = new EdgeCache(0);
        Kit.ask(x, 2, "PUT /\n\nPUT /\nK:b\n\nPUT /\nK:c\n\n");
        String answer = Kit.ask(x, 2, "HEAD /\nV:" + values + "\n\n");
        int at = answer.indexOf("K:");
        KIT.due("the letter for V:" + values, at < 0 ? '0' : answer.charAt(at + 2), want);
    }

    /** Whether a response with the policy, stored 5 seconds ago, answers a request with the C. */
    private static void dueFresh(String policy, String control, boolean want) {
        EdgeCache x = new EdgeCache(300);
        Kit.ask(x, 2, "PUT /\nP:" + policy + "\n\n");
        Kit.fetch(x, 0, "GET /\n\n");
        x.pass(5);
        KIT.due("an answer from the store with P:" + policy + " and C:" + control,
                !Kit.ask(x, 0, "GET /\nC:" + control + "\n\n").isEmpty(), want);
    }

    private static void missingNumbers() {
        KIT.sentence("its number is what the digits right behind it say (decimal), or MISSING when there are none");
        dueChosen("a8b", 'b');
        dueChosen("a9b", 'a');
        dueChosen("b10a", 'b');
        dueChosen("b09a", 'a');
        dueChosen("a1b2c10", 'c');
        dueChosen("a8b 8", 'b');
        dueChosen("a1b ,c0", 'b');
        dueFresh("s6", "", true);
        dueFresh("s5", "", false);
        dueFresh("s06", "", true);
        dueFresh("s10", "", true);
        dueFresh("s 6", "", false);
        dueFresh("s", "", false);
        dueFresh("s9999999", "", true);
        dueFresh("s9", "a5", true);
        dueFresh("s9", "a4", false);
        dueFresh("s9", "a04", false);
        dueFresh("s9", "a12", true);
        dueFresh("s9", "a 4", true);
        dueFresh("s9", "a", true);
        dueFresh("s9", "a9999999", true);
    }

    private static void lastOfEqualLetters() {
        KIT.sentence("of equal letters the last counts");
        dueChosen("b9b1a2", 'a');
        dueChosen("b1b9a2", 'b');
        dueChosen("b1a8b", 'b');
        dueChosen("ba8b1", 'a');
        dueChosen("aab0", 'a');
        dueChosen("a9a0", '0');
        dueFresh("s9s5", "", false);
        dueFresh("s5s9", "", true);
        dueFresh("s9s", "", false);
        dueFresh("ss9", "", true);
        dueFresh("s9sm6", "", true);
        dueFresh("m9m5", "", false);
        dueFresh("s9", "a9a4", false);
        dueFresh("s9", "a4a5", true);
        dueFresh("s9", "a4a", true);
    }

    private static void otherBytes() {
        KIT.sentence("All other bytes there mean nothing.");
        dueChosen("", '0');
        dueChosen("B9C9", '0');
        dueChosen("9,*", '0');
        dueChosen("d9b1", 'b');
        dueChosen("9b1", 'b');
        dueChosen("b1.9a1", 'a');
        dueFresh("S9", "", false);
        dueFresh("9s6", "", true);
        dueFresh("s6,9", "", true);
        dueFresh("s6/", "", true);
        dueFresh("s6:", "", true);
        dueFresh("s9n", "", false);
        dueFresh("s9n0", "", false);
        dueFresh("s9N", "", true);
        dueFresh("s9", "N", true);
        dueFresh("s9", "A4", true);
        dueFresh("s9", "n", false);
        dueFresh("s9", "9n9", false);
    }

    private static void dueMatch(int tag, String value, boolean want) {
        EdgeCache x = new EdgeCache(0);
        for (int i = 1; i <= tag; i++) {
            Kit.ask(x, 2, "PUT /\nL:1\n\n" + (char) ('a' + i));
        }
        String whole = "200\nE:" + tag + "\nK:a\nL:1\n\n" + (char) ('a' + tag);
        String name = " with " + value + " for tag " + tag;
        KIT.due("M" + name, Kit.ask(x, 2, "GET /\nM:" + value + "\n\n"), want ? whole : Kit.bare(412));
        KIT.due("N" + name, Kit.ask(x, 2, "GET /\nN:" + value + "\n\n"), want ? "304\nE:" + tag + "\nK:a\n\n" : whole);
        KIT.due("DELETE" + name, Kit.ask(x, 2, "DELETE /\nN:" + value + "\n\n"), Kit.bare(want ? 412 : 204));
    }

    private static void star() {
        KIT.sentence("A value MATCHES a tag when it is * alone");
        dueMatch(1, "*", true);
        dueMatch(12, "*", true);
        for (String value : new String[] {"", "**", " *", "* ", "*,", ",*", "*,2", "2,*", "*1"}) {
            dueMatch(1, value, false);
        }
    }

    private static void digitPieces() {
        KIT.sentence("one of its pieces (it is cut at every comma) consists of digits, at least one, whose number is the tag");
        for (String value : new String[] {"1", "01", "00000001", "1,", ",1", "2,1", "1,2", "2,1,3", ",,1", "x,1", "*,1", "1,*"}) {
            dueMatch(1, value, true);
        }
        for (String value : new String[] {"0", "2", "10", "11", "21", ",", ",,", "2,3", " 1", "1 ", "1x", "x1", "-1", "+1", "1;1", "1.", "0:", "1/"}) {
            dueMatch(1, value, false);
        }
        dueMatch(9, "9", true);
        dueMatch(9, "8,10", false);
        dueMatch(12, "12", true);
        dueMatch(12, "012", true);
        dueMatch(12, "1,12", true);
        for (String value : new String[] {"1,2", "2", "1", "112", "120", "21", "11,13", "1:", "1 2"}) {
            dueMatch(12, value, false);
        }
    }

    private static void withoutMatch() {
        KIT.sentence("M given that does not match its tag: 412.");
        for (String method : new String[] {"GET", "HEAD"}) {
            String whole = method.equals("GET") ? whole("xyz") : "200\nE:1\nK:a\nL:3\n\n";
            due("xyz", method + " /\n\n", whole);
            due("xyz", method + " /\nM:1\n\n", whole);
            due("xyz", method + " /\nM:2\n\n", Kit.bare(412));
            due("xyz", method + " /\nM:2\nN:1\n\n", Kit.bare(412));
            due("xyz", method + " /\nM:2\nR:9-\n\n", Kit.bare(412));
        }
    }

    private static void notModified() {
        KIT.sentence("Otherwise N given that matches: 304");
        due("xyz", "GET /\nN:1\n\n", "304\nE:1\nK:a\n\n");
        due("xyz", "HEAD /\nN:1\n\n", "304\nE:1\nK:a\n\n");
        due("xyz", "GET /\nN:2\n\n", whole("xyz"));
        due("xyz", "GET /\nM:1\nN:1\n\n", "304\nE:1\nK:a\n\n");
        due("xyz", "GET /\nN:1\nR:9-\n\n", "304\nE:1\nK:a\n\n");
        due("xyz", "GET /\nN:2\nR:9-\n\n", none(3));
    }

    private static void varyingAndPolicyLines() {
        KIT.sentence("with E, K, Y (if it varies), P (if the policy is not empty)");
        for (String policy : new String[] {"", "q", " "}) {
            String line = policy.isEmpty() ? "" : "P:" + policy + "\n";
            for (int letters = 1; letters <= 2; letters++) {
                EdgeCache x = new EdgeCache(0);
                Kit.ask(x, 2, Kit.put("/", "a", policy, "x"));
                if (letters == 2) {
                    Kit.ask(x, 2, Kit.put("/", "c", policy, "y"));
                }
                String lines = "E:1\nK:a\n" + (letters == 2 ? "Y:V\n" : "") + line;
                KIT.due("200 with " + lines, Kit.ask(x, 2, "GET /\n\n"), "200\n" + lines + "L:1\n\nx");
                KIT.due("304 with " + lines, Kit.ask(x, 2, "GET /\nN:1\n\n"), "304\n" + lines + "\n");
                KIT.due("206 with " + lines, Kit.ask(x, 2, "GET /\nR:0-\n\n"), "206\n" + lines + "R:0-0/1\nL:1\n\nx");
                KIT.due("206 of two with " + lines, Kit.ask(x, 2, "GET /\nR:0-,0-\n\n"),
                        "206\n" + lines + "R:2\nL:12\n\n0-0=x\n0-0=x\n");
                KIT.due("416", Kit.ask(x, 2, "GET /\nR:1-\n\n"), none(1));
            }
        }
    }

    private static void rangeCondition() {
        KIT.sentence("for GET with R given, if I is not given or is digits, at least one, whose number is the tag");
        due("xyz", "GET /\nR:0-0\n\n", part("0-0/3", "x"));
        for (String value : new String[] {"1", "01", "00000001"}) {
            due("xyz", "GET /\nR:0-0\nI:" + value + "\n\n", part("0-0/3", "x"));
            due("xyz", "GET /\nR:3-\nI:" + value + "\n\n", none(3));
            due("xyz", "GET /\nI:" + value + "\n\n", whole("xyz"));
        }
        for (String value : new String[] {"", "0", "2", "10", "11", "*", "1,", "1,1", " 1", "1 ", "1x", "-1", "1/", "0:"}) {
            due("xyz", "GET /\nR:0-0\nI:" + value + "\n\n", whole("xyz"));
            due("xyz", "GET /\nR:3-\nI:" + value + "\n\n", whole("xyz"));
        }
    }

    private static void onePieceOrTwo() {
        KIT.sentence("R is ignored unless it is one or two pieces with a comma between");
        dueRange("xyz", "", whole("xyz"));
        dueRange("xyz", "0-", part("0-2/3", "xyz"));
        dueRange("xyz", "0-,2-", part("2", "0-2=xyz\n2-2=z\n"));
        for (String range : new String[] {"0-,1-,2-", "0-,", ",0-", ",", ",,", "0-,,1-", "0-;1-", "0- 1-", "9-,8-,7-", "0-, 1-"}) {
            dueRange("xyz", range, whole("xyz"));
        }
    }

    private static void notAbove() {
        KIT.sentence("a-b (a not above b)");
        dueRange("xyz", "1-2", part("1-2/3", "yz"));
        dueRange("xyz", "1-1", part("1-1/3", "y"));
        dueRange("xyz", "0-0", part("0-0/3", "x"));
        dueRange("xyz", "2-1", whole("xyz"));
        dueRange("xyz", "1-0", whole("xyz"));
        dueRange("xyz", "10-9", whole("xyz"));
        dueRange("xyz", "9-10", none(3));
        dueRange("xyz", "9-9", none(3));
        dueRange("xyz", "9-8", whole("xyz"));
        dueRange("xyz", "0-0,2-1", whole("xyz"));
        dueRange("xyz", "2-1,0-0", whole("xyz"));
    }

    private static void digitsInPieces() {
        KIT.sentence("where a, b, n are digits, at least one");
        dueRange("xyz", "00-001", part("0-1/3", "xy"));
        dueRange("xyz", "-02", part("1-2/3", "yz"));
        for (String range : new String[] {"-", "0", "x-", "-x", "0-x", "x-0", "0--1", "--1", "0-1-", "0-1-2", "+0-1", " 0-1", "0 -1", "0- 1", "0-1 ",
            "/-1", ":-1", "0-/", "0-:", "-/", "-:", "-,0-", "0-,-", "0-,1", "*-"}) {
            dueRange("xyz", range, whole("xyz"));
        }
    }

    private static void notBeyondTheLast() {
        KIT.sentence("a piece means the bytes from a to b, but not beyond z - 1");
        dueRange("xyz", "0-1", part("0-1/3", "xy"));
        dueRange("xyz", "0-2", part("0-2/3", "xyz"));
        dueRange("xyz", "0-3", part("0-2/3", "xyz"));
        dueRange("xyz", "0-999999", part("0-2/3", "xyz"));
        dueRange("xyz", "2-2", part("2-2/3", "z"));
        dueRange("xyz", "2-3", part("2-2/3", "z"));
        dueRange("xyz", "3-3", none(3));
        dueRange("xyz", "3-9", none(3));
        dueRange("12345678", "7-7", part("7-7/8", "8"));
        dueRange("12345678", "7-8", part("7-7/8", "8"));
        dueRange("12345678", "8-8", none(8));
        dueRange("x", "0-0", part("0-0/1", "x"));
        dueRange("x", "0-1", part("0-0/1", "x"));
        dueRange("x", "1-1", none(1));
        dueRange("", "0-0", none(0));
    }

    private static void openPiece() {
        KIT.sentence("from a to z - 1");
        dueRange("xyz", "0-", part("0-2/3", "xyz"));
        dueRange("xyz", "2-", part("2-2/3", "z"));
        dueRange("xyz", "3-", none(3));
        dueRange("xyz", "9999999-", none(3));
        dueRange("12345678", "0-", part("0-7/8", "12345678"));
        dueRange("12345678", "7-", part("7-7/8", "8"));
        dueRange("12345678", "8-", none(8));
        dueRange("", "0-", none(0));
    }

    private static void lastBytes() {
        KIT.sentence("the last n, but not more than z");
        dueRange("xyz", "-0", none(3));
        dueRange("xyz", "-1", part("2-2/3", "z"));
        dueRange("xyz", "-2", part("1-2/3", "yz"));
        dueRange("xyz", "-3", part("0-2/3", "xyz"));
        dueRange("xyz", "-4", part("0-2/3", "xyz"));
        dueRange("xyz", "-9999999", part("0-2/3", "xyz"));
        dueRange("12345678", "-8", part("0-7/8", "12345678"));
        dueRange("12345678", "-9", part("0-7/8", "12345678"));
        dueRange("", "-0", none(0));
        dueRange("", "-1", none(0));
    }

    private static void noPieceLeft() {
        KIT.sentence("A piece that means no byte falls out. None left: 416");
        for (String range : new String[] {"3-", "-0", "3-,-0", "-0,-0", "3-3,4-", "9-,8-"}) {
            dueRange("xyz", range, none(3));
        }
        for (String range : new String[] {"0-", "-1", "0-0", "0-,-1", "-0,0-9"}) {
            dueRange("", range, none(0));
        }
        dueRange("xyz", "2-,-0", part("2-2/3", "z"));
    }

    private static void onePieceLeft() {
        KIT.sentence("One left: 206, with E, K, Y, P as above, R:f-t/z");
        dueRange("xyz", "3-,-1", part("2-2/3", "z"));
        dueRange("xyz", "-1,3-", part("2-2/3", "z"));
        dueRange("xyz", "-0,0-1", part("0-1/3", "xy"));
        dueRange("xyz", "1-9,9-9", part("1-2/3", "yz"));
        dueRange("xyz", "1-", part("1-2/3", "yz"));
    }

    private static void twoPiecesLeft() {
        KIT.sentence("Two left: the same, but R:2 and the body is, for each of them in their order, f-t= then its bytes, then LF");
        dueRange("xyz", "0-0,2-2", part("2", "0-0=x\n2-2=z\n"));
        dueRange("xyz", "2-2,0-0", part("2", "2-2=z\n0-0=x\n"));
        dueRange("xyz", "0-,0-", part("2", "0-2=xyz\n0-2=xyz\n"));
        dueRange("xyz", "-9,2-9", part("2", "0-2=xyz\n2-2=z\n"));
        dueRange("x", "0-,-1", part("2", "0-0=x\n0-0=x\n"));
        dueRange("12345678", "0-,-8", part("2", "0-7=12345678\n0-7=12345678\n"));
        dueRange("xyz", "0-0,3-", part("0-0/3", "x"));
    }

    private static void wholeAnswer() {
        KIT.sentence("Otherwise 200 with E, K, Y, P as above, L and the body");
        due("", "GET /\n\n", whole(""));
        due("x", "GET /\n\n", whole("x"));
        due("12345678", "GET /\n\n", whole("12345678"));
    }

    private static void head() {
        KIT.sentence("to a HEAD without the body (L is as for GET; R means nothing)");
        for (String body : new String[] {"", "x", "12345678"}) {
            String answer = "200\nE:1\nK:a\nL:" + body.length() + "\n\n";
            due(body, "HEAD /\n\n", answer);
            due(body, "HEAD /\nR:0-0\n\n", answer);
            due(body, "HEAD /\nR:9-\n\n", answer);
            due(body, "HEAD /\nR:0-,-1\nI:1\n\n", answer);
        }
    }
}
