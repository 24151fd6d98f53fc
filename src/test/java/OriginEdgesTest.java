/** 'THE ORIGIN': each sentence that names a boundary, on both sides of it. */
public final class OriginEdgesTest {
    private static final Kit KIT = new Kit();

    public static void main(String[] args) {
        sixResources();
        noPlace();
        varying();
        tagsGiven();
        withoutV();
        oneLetterAlone();
        greatestQuality();
        leastOfSeveral();
        qualities();
        noneChosen();
        reading();
        letters();
        putWithMatch();
        putWithNoneMatch();
        orderOfRefusals();
        policies();
        newTags();
        statuses();
        deleting();
        deletingOnCondition();
        KIT.end();
    }

    private static String written(int status, int tag) {
        return status + "\nE:" + tag + "\nL:0\n\n";
    }

    private static EdgeCache withLetters(String letters) {
        EdgeCache x = new EdgeCache(300);
        for (int i = 0; i < letters.length(); i++) {
            Kit.ask(x, 2, "PUT /\nK:" + letters.charAt(i) + "\n\n");
        }
        return x;
    }

    private static EdgeCache withResources(int count) {
        EdgeCache x = new EdgeCache(0);
        for (int i = 1; i <= count; i++) {
            Kit.ask(x, 2, "PUT /" + i + "\n\n");
        }
        return x;
    }

    private static void sixResources() {
        KIT.sentence("THE ORIGIN has up to 6 RESOURCES, by path");
        EdgeCache x = withResources(7);
        for (int i = 1; i <= 7; i++) {
            KIT.due("the resource " + i, Kit.ask(x, 2, "HEAD /" + i + "\n\n"),
                    i <= 6 ? "200\nE:" + i + "\nK:a\nL:0\n\n" : Kit.bare(404));
        }
        KIT.due("tag()", x.tag(), 6);
    }

    private static void noPlace() {
        KIT.sentence("No resource, and there are 6: 507.");
        KIT.due("a sixth", Kit.ask(withResources(5), 2, "PUT /x\n\n"), written(201, 6));
        EdgeCache x = withResources(6);
        KIT.due("a seventh", Kit.ask(x, 2, "PUT /x\n\n"), Kit.bare(507));
        KIT.due("tag() then", x.tag(), 6);
        KIT.due("the first again", Kit.ask(x, 2, "PUT /1\n\n"), written(204, 1));
        KIT.due("the sixth again", Kit.ask(x, 2, "PUT /6\nL:1\n\nx"), written(204, 7));
        KIT.due("a second letter of the sixth", Kit.ask(x, 2, "PUT /6\nK:b\n\n"), written(201, 8));
        KIT.due("a third letter of the sixth", Kit.ask(x, 2, "PUT /6\nK:c\n\n"), written(201, 9));
        KIT.due("one goes", Kit.ask(x, 2, "DELETE /1\n\n"), Kit.bare(204));
        KIT.due("there is a place", Kit.ask(x, 2, "PUT /x\n\n"), written(201, 10));
        KIT.due("there is none", Kit.ask(x, 2, "PUT /1\n\n"), Kit.bare(507));
        Kit.send(x, 0, "PUT /1\n\n");
        KIT.due("none from the cache either", x.origin(0), 507);
    }

    private static void varying() {
        KIT.sentence("they vary when there are more than one");
        String[] letters = {"a", "b", "ab", "bc", "abc", "aa"};
        boolean[] varies = {false, false, true, true, true, false};
        for (int i = 0; i < letters.length; i++) {
            String answer = Kit.ask(withLetters(letters[i]), 2, "HEAD /\n\n");
            KIT.due("Y:V with letters " + letters[i], answer.contains("Y:V\n"), varies[i]);
        }
        EdgeCache x = withLetters("ab");
        KIT.due("another resource", Kit.ask(x, 2, "PUT /x\n\nHEAD /x\n\n"), written(201, 3) + "200\nE:3\nK:a\nL:0\n\n");
        Kit.ask(x, 2, "DELETE /\n\n");
        KIT.due("one letter again", Kit.ask(x, 2, "PUT /\nK:b\n\nHEAD /\n\n"), written(201, 4) + "200\nE:4\nK:b\nL:0\n\n");
    }

    private static void tagsGiven() {
        KIT.sentence("The tags given are 1, 2, 3, ..");
        EdgeCache x = new EdgeCache(0);
        KIT.due("tag() before the first", x.tag(), 0);
        for (int i = 1; i <= 12; i++) {
            KIT.due("tag " + i, Kit.ask(x, 2, "PUT /\nL:1\n\n" + (char) ('a' + i)), written(i == 1 ? 201 : 204, i));
            KIT.due("tag()", x.tag(), i);
        }
    }

    private static void dueLetter(String letters, String lines, String want) {
        String answer = Kit.ask(withLetters(letters), 2, "HEAD /\n" + lines + "\n");
        int at = answer.indexOf("K:");
        KIT.due("of " + letters + " with '" + lines.replace("\n", "|") + "'",
                at < 0 ? answer.substring(0, 3) : answer.substring(at + 2, at + 3), want);
    }

    private static void withoutV() {
        KIT.sentence("without V, or when there is one letter alone, the least letter there is");
        dueLetter("abc", "", "a");
        dueLetter("cba", "", "a");
        dueLetter("cb", "", "b");
        dueLetter("c", "", "c");
        dueLetter("ab", "V:b\n", "b");
    }

    private static void oneLetterAlone() {
        KIT.sentence("when there is one letter alone");
        for (String value : new String[] {"", "a", "b", "c", "b0", "c0", "b0a9"}) {
            dueLetter("b", "V:" + value + "\n", "b");
        }
        dueLetter("ab", "V:b0\n", "406");
        dueLetter("bc", "V:a9\n", "406");
    }

    private static void greatestQuality() {
        KIT.sentence("otherwise of the letters there are the one with the greatest quality");
        dueLetter("abc", "V:a1b2c3\n", "c");
        dueLetter("abc", "V:a1b3c2\n", "b");
        dueLetter("abc", "V:a3b2c1\n", "a");
        dueLetter("ab", "V:a1b2c3\n", "b");
        dueLetter("bc", "V:a3b2c1\n", "b");
        dueLetter("ac", "V:a1b9c2\n", "c");
        dueLetter("ab", "V:a99b100\n", "b");
        dueLetter("ab", "V:a101b99\n", "a");
    }

    private static void leastOfSeveral() {
        KIT.sentence("the least of several");
        dueLetter("abc", "V:c5b5a5\n", "a");
        dueLetter("abc", "V:c5b5a4\n", "b");
        dueLetter("abc", "V:c6b5a5\n", "c");
        dueLetter("cb", "V:cb\n", "b");
        dueLetter("ab", "V:b9a\n", "a");
        dueLetter("ab", "V:ba9\n", "a");
    }

    private static void qualities() {
        KIT.sentence("the quality of a letter that does not count in V is 0, with MISSING it is 9, otherwise the number");
        dueLetter("ab", "V:b1\n", "b");
        dueLetter("ab", "V:b0\n", "406");
        dueLetter("ab", "V:a8b\n", "b");
        dueLetter("ab", "V:a9b\n", "a");
        dueLetter("ab", "V:ab9\n", "a");
        dueLetter("ab", "V:ab10\n", "b");
        dueLetter("ab", "V:a10b\n", "a");
    }

    private static void noneChosen() {
        KIT.sentence("if the greatest quality is 0: none");
        for (String value : new String[] {"", "a0", "a0b0", "x9", "AB", "9"}) {
            dueLetter("ab", "V:" + value + "\n", "406");
        }
        dueLetter("ab", "V:a0b1\n", "b");
        dueLetter("ab", "V:a00b\n", "b");
        dueLetter("ab", "V:b0a0a\n", "a");
        dueLetter("abc", "V:a0b0c0\n", "406");
        dueLetter("abc", "V:a0b0c1\n", "c");
        dueLetter("ab", "V:c\n", "406");
        dueLetter("abc", "V:c\n", "c");
    }

    private static void reading() {
        KIT.sentence("GET, HEAD: 404 without a resource; 406 when none is chosen; otherwise what selecting answers.");
        EdgeCache x = withLetters("ab");
        for (String method : new String[] {"GET", "HEAD"}) {
            KIT.due("no resource", Kit.ask(x, 2, method + " /x\n\n"), Kit.bare(404));
            KIT.due("no resource, with M, N and V", Kit.ask(x, 2, method + " /x\nM:1\nN:*\nV:\n\n"), Kit.bare(404));
            KIT.due("none chosen, with M and N", Kit.ask(x, 2, method + " /\nM:9\nN:*\nV:\n\n"), Kit.bare(406));
            KIT.due("one chosen, with M", Kit.ask(x, 2, method + " /\nM:2\n\n"), Kit.bare(412));
            KIT.due("one chosen", Kit.ask(x, 2, method + " /\nM:2\nV:b\n\n"), "200\nE:2\nK:b\nY:V\nL:0\n\n");
        }
    }

    private static void letters() {
        KIT.sentence("the letter is K's value, a if K is not given; another value than a, b, c: 415");
        for (String letter : new String[] {"a", "b", "c"}) {
            KIT.due("K:" + letter, Kit.ask(new EdgeCache(0), 2, "PUT /\nK:" + letter + "\n\nHEAD /\n\n"),
                    written(201, 1) + "200\nE:1\nK:" + letter + "\nL:0\n\n");
        }
        KIT.due("no K", Kit.ask(new EdgeCache(0), 2, "PUT /\n\nHEAD /\n\n"), written(201, 1) + "200\nE:1\nK:a\nL:0\n\n");
        for (String letter : new String[] {"", "`", "d", "A", "B", "C", "aa", "ab", "a ", " a", "a,b", "1", "*"}) {
            EdgeCache x = new EdgeCache(0);
            KIT.due("K:" + letter, Kit.ask(x, 2, "PUT /\nK:" + letter + "\n\nGET /\n\n"), Kit.bare(415) + Kit.bare(404));
            KIT.due("tag() then", x.tag(), 0);
        }
        KIT.due("K of a GET", Kit.ask(withLetters("a"), 2, "HEAD /\nK:q\n\n"), "200\nE:1\nK:a\nL:0\n\n");
        KIT.due("K of a DELETE", Kit.ask(withLetters("a"), 2, "DELETE /\nK:q\n\n"), Kit.bare(204));
    }

    private static void putWithMatch() {
        KIT.sentence("M given and there is no representation of that letter, or M does not match its tag: 412.");
        for (String value : new String[] {"*", "1", "", "2"}) {
            KIT.due("no resource, M:" + value, Kit.ask(new EdgeCache(0), 2, "PUT /\nM:" + value + "\n\n"), Kit.bare(412));
            KIT.due("no letter b, M:" + value, Kit.ask(withLetters("a"), 2, "PUT /\nK:b\nM:" + value + "\n\n"), Kit.bare(412));
        }
        for (String value : new String[] {"*", "1", "2,1"}) {
            KIT.due("M:" + value, Kit.ask(withLetters("ab"), 2, "PUT /\nM:" + value + "\nL:1\n\nx"), written(204, 3));
        }
        for (String value : new String[] {"", "2", "3"}) {
            EdgeCache x = withLetters("ab");
            KIT.due("M:" + value, Kit.ask(x, 2, "PUT /\nM:" + value + "\nP:s9\nL:1\n\nxHEAD /\n\n"),
                    Kit.bare(412) + "200\nE:1\nK:a\nY:V\nL:0\n\n");
            KIT.due("tag() then", x.tag(), 2);
        }
        KIT.due("M of letter b", Kit.ask(withLetters("ab"), 2, "PUT /\nK:b\nM:2\nL:1\n\nx"), written(204, 3));
        KIT.due("no M", Kit.ask(withLetters("ab"), 2, "PUT /\nL:1\n\nx"), written(204, 3));
    }

    private static void putWithNoneMatch() {
        KIT.sentence("N given and there is one and N matches its tag: 412.");
        for (String value : new String[] {"*", "1", "2,1"}) {
            EdgeCache x = withLetters("ab");
            KIT.due("N:" + value, Kit.ask(x, 2, "PUT /\nN:" + value + "\nL:1\n\nx"), Kit.bare(412));
            KIT.due("tag() then", x.tag(), 2);
            KIT.due("no resource, N:" + value, Kit.ask(new EdgeCache(0), 2, "PUT /\nN:" + value + "\n\n"), written(201, 1));
            KIT.due("no letter b, N:" + value, Kit.ask(withLetters("a"), 2, "PUT /\nK:b\nN:" + value + "\n\n"), written(201, 2));
        }
        for (String value : new String[] {"", "2", "3"}) {
            KIT.due("N:" + value, Kit.ask(withLetters("ab"), 2, "PUT /\nN:" + value + "\nL:1\n\nx"), written(204, 3));
        }
        KIT.due("M and N match", Kit.ask(withLetters("a"), 2, "PUT /\nM:1\nN:1\n\n"), Kit.bare(412));
        KIT.due("M alone matches", Kit.ask(withLetters("a"), 2, "PUT /\nM:1\nN:2\n\n"), written(204, 1));
    }

    private static void orderOfRefusals() {
        KIT.sentence("another value than a, b, c: 415");
        KIT.due("415 before 412", Kit.ask(withResources(6), 2, "PUT /1\nK:d\nM:9\n\n"), Kit.bare(415));
        KIT.due("415 before 507", Kit.ask(withResources(6), 2, "PUT /x\nK:d\n\n"), Kit.bare(415));
        KIT.due("412 before 507", Kit.ask(withResources(6), 2, "PUT /x\nM:*\n\n"), Kit.bare(412));
        KIT.due("507 with N", Kit.ask(withResources(6), 2, "PUT /x\nN:*\n\n"), Kit.bare(507));
    }

    private static void policies() {
        KIT.sentence("P's value (empty if not given) the policy of the resource");
        EdgeCache x = new EdgeCache(0);
        KIT.due("given", Kit.ask(x, 2, "PUT /\nP:12345678\n\nHEAD /\n\n"), written(201, 1) + "200\nE:1\nK:a\nP:12345678\nL:0\n\n");
        KIT.due("of another letter", Kit.ask(x, 2, "PUT /\nK:b\nP:q\n\nHEAD /\n\n"), written(201, 2) + "200\nE:1\nK:a\nY:V\nP:q\nL:0\n\n");
        KIT.due("empty", Kit.ask(x, 2, "PUT /\nP:\n\nHEAD /\nV:b\n\n"), written(204, 1) + "200\nE:2\nK:b\nY:V\nL:0\n\n");
        Kit.ask(x, 2, "PUT /\nP:q\n\n");
        KIT.due("not given", Kit.ask(x, 2, "PUT /\n\nHEAD /\n\n"), written(204, 1) + "200\nE:1\nK:a\nY:V\nL:0\n\n");
        Kit.ask(x, 2, "PUT /\nP:q\n\n");
        KIT.due("of another resource", Kit.ask(x, 2, "PUT /x\nP:r\n\nHEAD /\n\n"), written(201, 3) + "200\nE:1\nK:a\nY:V\nP:q\nL:0\n\n");
    }

    private static void newTags() {
        KIT.sentence("a new tag is given when there was none or its body was another one");
        EdgeCache x = new EdgeCache(0);
        String[] requests = {"PUT /\n\n", "PUT /\n\n", "PUT /\nL:1\n\nx", "PUT /\nP:s9\nL:1\n\nx", "PUT /\nL:2\n\nxx", "PUT /\nL:2\n\nxX",
            "PUT /\nK:b\nL:2\n\nxX", "PUT /\nK:b\nT:c\n\n1\nx\n1\nX\n0\n\n", "PUT /\nL:8\n\n12345678", "PUT /\nL:8\n\n12345679",
            "PUT /\nL:8\n\n12345679", "PUT /x\nL:8\n\n12345679"};
        int[] tags = {1, 1, 2, 2, 3, 4, 5, 5, 6, 7, 7, 8};
        for (int i = 0; i < requests.length; i++) {
            boolean first = i == 0 || i == 6 || i == 11;
            KIT.due("the answer to '" + requests[i].replace("\n", "|") + "'", Kit.ask(x, 2, requests[i]), written(first ? 201 : 204, tags[i]));
            KIT.due("tag()", x.tag(), tags[i]);
        }
        Kit.ask(x, 2, "DELETE /\n\n");
        KIT.due("the same body after DELETE", Kit.ask(x, 2, "PUT /\nL:8\n\n12345679"), written(201, 9));
    }

    private static void statuses() {
        KIT.sentence("status 201 if there was none, otherwise 204");
        EdgeCache x = new EdgeCache(0);
        KIT.due("no resource", Kit.ask(x, 2, "PUT /\n\n"), written(201, 1));
        KIT.due("the same body", Kit.ask(x, 2, "PUT /\n\n"), written(204, 1));
        KIT.due("another body", Kit.ask(x, 2, "PUT /\nL:1\n\nx"), written(204, 2));
        KIT.due("another letter", Kit.ask(x, 2, "PUT /\nK:b\n\n"), written(201, 3));
        KIT.due("that letter again", Kit.ask(x, 2, "PUT /\nK:b\n\n"), written(204, 3));
    }

    private static void deleting() {
        KIT.sentence("DELETE: 404 without a resource");
        EdgeCache x = withLetters("abc");
        KIT.due("another path", Kit.ask(x, 2, "DELETE /x\n\n"), Kit.bare(404));
        KIT.due("a resource", Kit.ask(x, 2, "DELETE /\n\n"), Kit.bare(204));
        KIT.due("it has gone", Kit.ask(x, 2, "DELETE /\n\n"), Kit.bare(404));
        KIT.due("all its letters have", Kit.ask(x, 2, "GET /\nV:c\n\nGET /\nV:b\n\n"), Kit.bare(404).repeat(2));
        KIT.due("404 with M and N", Kit.ask(x, 2, "DELETE /\nM:*\nN:*\n\n"), Kit.bare(404));
    }

    private static void deletingOnCondition() {
        KIT.sentence("M, N against the representation of the least letter as in PUT (412)");
        String[] lines = {"", "M:*\n", "M:1\n", "M:2\n", "M:\n", "N:*\n", "N:1\n", "N:2\n", "N:\n", "M:2\nN:1\n", "M:2\nN:2\n", "K:c\nM:1\n"};
        int[] statuses = {204, 204, 412, 204, 412, 412, 204, 412, 204, 204, 412, 412};
        for (int i = 0; i < lines.length; i++) {
            EdgeCache x = withLetters("cb");
            KIT.due("DELETE with '" + lines[i].replace("\n", "|") + "'", Kit.ask(x, 2, "DELETE /\n" + lines[i] + "\n"), Kit.bare(statuses[i]));
            KIT.due("the resource then", Kit.ask(x, 2, "HEAD /\n\n"), statuses[i] == 204 ? Kit.bare(404) : "200\nE:2\nK:b\nY:V\nL:0\n\n");
        }
    }
}
