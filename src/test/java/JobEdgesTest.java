/** 'THE CACHE', its jobs and what arrives: each sentence that names a boundary, on both sides of it. */
public final class JobEdgesTest {
    private static final Kit KIT = new Kit();

    public static void main(String[] args) {
        keptCopy();
        copyOutlivesTheStore();
        copyAsItIsThen();
        alikeRequests();
        orderOfComing();
        freeUpstream();
        sameTag();
        storedWithThePathGo();
        refusedWritesLeaveTheStore();
        spoiled();
        notSpoiled();
        spoiledAnswers();
        goneForTheRequest();
        goneForASpoiledJob();
        policyOfTheResponse();
        selectedWithoutAge();
        KIT.end();
    }

    /** An object whose origin has / with the letters, the policy s9 and the body x. */
    private static EdgeCache withLetters(String letters) {
        EdgeCache x = new EdgeCache(300);
        for (int i = 0; i < letters.length(); i++) {
            Kit.ask(x, 2, Kit.put("/", letters.substring(i, i + 1), "s9", "x"));
        }
        return x;
    }

    private static void work(EdgeCache x, int u, String name, int want) {
        KIT.due("origin(" + u + ") for " + name, x.origin(u), want);
        KIT.due("arrive(" + u + ") for " + name, x.arrive(u), want);
    }

    private static void keptCopy() {
        KIT.sentence("if one fits, the job keeps a copy of it as it is then");
        EdgeCache x = withLetters("a");
        Kit.send(x, 0, "GET /\n\n");
        work(x, 0, "the first, without a copy", 200);
        Kit.send(x, 0, "GET /\nV:b\nC:n\n\n");
        work(x, 0, "one that fits, as it does not vary", 304);
        EdgeCache y = withLetters("ab");
        Kit.send(y, 0, "GET /\nV:a\n\n");
        work(y, 0, "V:a", 200);
        Kit.send(y, 0, "GET /\nV:a1\n\n");
        work(y, 0, "another V for the same letter", 200);
        Kit.send(y, 0, "GET /\nV:a\nC:n\n\n");
        work(y, 0, "the same V", 304);
        Kit.send(y, 0, "GET /\n\n");
        work(y, 0, "no V", 200);
        Kit.send(y, 1, "GET /x\n\n");
        work(y, 0, "another path", 404);
    }

    private static void copyOutlivesTheStore() {
        KIT.sentence("(whatever goes from the store later)");
        EdgeCache x = new EdgeCache(30);
        Kit.ask(x, 2, Kit.put("/", "a", "s9", "x") + Kit.put("/y", "a", "s9", "y"));
        Kit.fetch(x, 0, "GET /\n\n");
        Kit.send(x, 0, "GET /\nC:n\n\n");
        Kit.send(x, 1, "GET /y\n\n");
        work(x, 1, "one that takes the room", 200);
        KIT.dueStore(x, "after it", 1, 23);
        work(x, 0, "the one that went for room", 304);
        KIT.due("the answer of the copy", Kit.read(x, 0), "200\nE:1\nK:a\nP:s9\nL:1\n\nx");
        KIT.dueStore(x, "when it is stored again", 1, 23);

        EdgeCache y = withLetters("a");
        Kit.fetch(y, 0, "GET /\n\n");
        Kit.send(y, 0, "DELETE /q\n\nPUT /\nP:s9\nL:1\n\nxGET /\nC:n\n\n");
        work(y, 1, "a PUT of the same body", 204);
        KIT.dueStore(y, "after the PUT", 0, 0);
        work(y, 1, "the one that went for the PUT", 304);
        KIT.dueStore(y, "when it is stored again", 1, 23);
    }

    private static void copyAsItIsThen() {
        KIT.sentence("a copy of it as it is then");
        EdgeCache x = withLetters("a");
        Kit.send(x, 0, "GET /\n\nGET /\n\n");
        work(x, 0, "the first of two", 200);
        KIT.dueStore(x, "after the first", 1, 23);
        work(x, 1, "the second, which came before it was stored", 200);
        Kit.send(x, 0, "GET /\nC:n\n\nGET /\nC:n\n\n");
        Kit.ask(x, 2, Kit.put("/", "a", "s9", "y"));
        work(x, 0, "one with an older copy", 200);
        work(x, 1, "another with the older copy", 200);
        Kit.read(x, 0);
        Kit.send(x, 0, "GET /\nC:n\n\n");
        work(x, 0, "one with the newer copy", 304);
    }

    private static void alikeRequests() {
        KIT.sentence("Requests that are alike have a job each.");
        EdgeCache x = withLetters("a");
        Kit.send(x, 0, "GET /\n\nGET /\n\nGET /\n\n");
        Kit.send(x, 1, "GET /\n\n");
        KIT.dueJobs(x, "with four alike", 1, 1, 2);
        work(x, 0, "the first", 200);
        KIT.dueJobs(x, "when a fresh one is stored", 1, 1, 1);
        KIT.due("waiting(0)", x.waiting(0), 2);
        KIT.due("waiting(1)", x.waiting(1), 1);
    }

    private static void orderOfComing() {
        KIT.sentence("Jobs wait in the order of their coming.");
        EdgeCache x = new EdgeCache(0);
        Kit.send(x, 0, "PUT /1\n\nPUT /2\n\nPUT /3\n\n");
        Kit.send(x, 1, "PUT /4\n\n");
        Kit.send(x, 0, "PUT /5\n\n");
        Kit.send(x, 1, "PUT /6\n\n");
        KIT.dueJobs(x, "with six", 1, 1, 4);
        int[] upstreams = {1, 1, 1, 1, 1, 0};
        String[] paths = {"/2", "/3", "/4", "/5", "/6", "/1"};
        for (int i = 0; i < 6; i++) {
            work(x, upstreams[i], paths[i], 201);
            KIT.due("the tag of " + paths[i], Kit.ask(x, 2, "HEAD " + paths[i] + "\n\n"), "200\nE:" + (i + 1) + "\nK:a\nL:0\n\n");
        }
        KIT.dueJobs(x, "at the end", 0, 0, 0);
    }

    private static void freeUpstream() {
        KIT.sentence("While a job waits and an upstream is free, the first one is SENT on it (on upstream 0 when both are free)");
        EdgeCache x = new EdgeCache(0);
        KIT.dueJobs(x, "with none", 0, 0, 0);
        Kit.send(x, 1, "GET /\n\n");
        KIT.dueJobs(x, "with one", 1, 0, 0);
        Kit.send(x, 1, "GET /\n\n");
        KIT.dueJobs(x, "with two", 1, 1, 0);
        Kit.send(x, 1, "GET /\n\n");
        KIT.dueJobs(x, "with three", 1, 1, 1);
        work(x, 0, "the first", 404);
        KIT.dueJobs(x, "after the first", 1, 1, 0);
        work(x, 0, "the third", 404);
        KIT.dueJobs(x, "after the third", 0, 1, 0);
        Kit.send(x, 0, "GET /\n\n");
        KIT.dueJobs(x, "with one more", 1, 1, 0);
        work(x, 1, "the second", 404);
        KIT.dueJobs(x, "after the second", 1, 0, 0);
        Kit.send(x, 0, "GET /\n\n");
        KIT.dueJobs(x, "with upstream 1 free alone", 1, 1, 0);
    }

    private static void sameTag() {
        KIT.sentence("304 in place of it when the job keeps a copy with the same tag");
        String[] writes = {"", Kit.put("/", "a", "s9", "x"), Kit.put("/", "a", "m1", "x"), Kit.put("/", "b", "s9", "x"),
            Kit.put("/", "a", "s9", "y"), Kit.put("/", "a", "s9", "y") + Kit.put("/", "a", "s9", "x"),
            "DELETE /\n\n" + Kit.put("/", "a", "s9", "x"), "DELETE /\n\n" + Kit.put("/", "b", "s9", "x"), "DELETE /\n\n"};
        int[] statuses = {304, 304, 304, 304, 200, 200, 200, 200, 404};
        for (int i = 0; i < writes.length; i++) {
            EdgeCache x = withLetters("a");
            Kit.fetch(x, 0, "GET /\n\n");
            Kit.send(x, 0, "GET /\nC:n\n\n");
            Kit.ask(x, 2, writes[i]);
            work(x, 0, "a job after '" + writes[i].replace("\n", "|") + "'", statuses[i]);
        }
        EdgeCache x = withLetters("a");
        Kit.fetch(x, 0, "GET /\n\n");
        Kit.send(x, 0, "GET /\nV:b\nC:n\n\n");
        Kit.ask(x, 2, Kit.put("/", "b", "s9", "x"));
        work(x, 0, "another letter than the copy's", 200);
    }

    /** What is stored after the write, of two responses for / and one for /y. */
    private static void dueLeft(EdgeCache x, String write, int status, int left) {
        Kit.fetch(x, 0, "GET /\nV:a\n\n");
        Kit.fetch(x, 0, "GET /\nV:b\n\n");
        Kit.fetch(x, 0, "GET /y\n\n");
        Kit.send(x, 1, write);
        KIT.due("origin(0) for '" + write.replace("\n", "|") + "'", x.origin(0), status);
        KIT.due("stored() before it arrives", x.stored(), 3);
        KIT.due("arrive(0)", x.arrive(0), status);
        KIT.due("stored() after '" + write.replace("\n", "|") + "'", x.stored(), left);
    }

    private static EdgeCache twoPaths() {
        EdgeCache x = withLetters("ab");
        Kit.ask(x, 2, Kit.put("/y", "a", "s9", "y"));
        return x;
    }

    private static void storedWithThePathGo() {
        KIT.sentence("if the status is 201 or 204, all stored with that path go");
        dueLeft(twoPaths(), Kit.put("/", "c", "", ""), 201, 1);
        dueLeft(twoPaths(), Kit.put("/", "a", "s9", "x"), 204, 1);
        dueLeft(twoPaths(), Kit.put("/", "a", "s9", "z"), 204, 1);
        dueLeft(twoPaths(), "PUT /q/../y\n\n", 204, 2);
        dueLeft(twoPaths(), "DELETE /\n\n", 204, 1);
        dueLeft(twoPaths(), "DELETE /y\nM:3\n\n", 204, 2);
        dueLeft(twoPaths(), "PUT /z\n\n", 201, 3);
    }

    private static void refusedWritesLeaveTheStore() {
        KIT.sentence("to a PUT or DELETE: that is the answer; if the status is 201 or 204");
        dueLeft(twoPaths(), "PUT /\nM:9\n\n", 412, 3);
        dueLeft(twoPaths(), "PUT /\nN:1\n\n", 412, 3);
        dueLeft(twoPaths(), "PUT /\nK:q\n\n", 415, 3);
        dueLeft(twoPaths(), "DELETE /\nN:*\n\n", 412, 3);
        dueLeft(twoPaths(), "DELETE /z\n\n", 404, 3);
        EdgeCache x = twoPaths();
        Kit.fetch(x, 0, "GET /\n\n");
        Kit.ask(x, 2, "DELETE /\n\n");
        Kit.send(x, 0, "DELETE /\n\n");
        work(x, 0, "DELETE of what has gone", 404);
        KIT.dueStore(x, "after 404 to a DELETE", 1, 27);
        for (int i = 1; i <= 5; i++) {
            Kit.ask(x, 2, "PUT /" + i + "\n\n");
        }
        Kit.send(x, 0, "PUT /\n\n");
        work(x, 0, "PUT without a place", 507);
        KIT.dueStore(x, "after 507", 1, 27);
        Kit.ask(x, 2, "DELETE /1\n\n");
        Kit.send(x, 0, "PUT /\n\n");
        work(x, 0, "PUT with a place", 201);
        KIT.dueStore(x, "after 201", 0, 0);
    }

    /** What is stored of a job for / that is asked on one upstream while the other request is on the other one. */
    private static void dueSpoiling(String read, String other, int status, boolean readFirst, int stored) {
        for (int done = 0; done < 2; done++) {
            EdgeCache x = withLetters("a");
            int mine = readFirst ? 0 : 1;
            Kit.send(x, 0, readFirst ? read + other : other + read);
            if (done == 1) {
                x.origin(mine);
            }
            work(x, 1 - mine, "'" + other.replace("\n", "|") + "'", status);
            Kit.ask(x, 2, Kit.put("/", "a", "s9", "x"));
            if (done == 0) {
                x.origin(mine);
            }
            KIT.due("arrive(" + mine + ")", x.arrive(mine), 200);
            KIT.due("stored() after '" + read.replace("\n", "|") + "' beside '" + other.replace("\n", "|") + "'", x.stored(), stored);
        }
    }

    private static void spoiled() {
        KIT.sentence("a job on the other upstream that asks for that path is SPOILED");
        String[] writes = {"PUT /\n\n", "PUT /\nP:s9\nL:1\n\nx", "PUT /\nK:c\n\n", "DELETE /\n\n", "PUT /.\n\n"};
        int[] statuses = {204, 204, 201, 204, 204};
        for (int i = 0; i < writes.length; i++) {
            dueSpoiling("GET /\n\n", writes[i], statuses[i], true, 0);
            dueSpoiling("GET /\n\n", writes[i], statuses[i], false, 0);
            dueSpoiling("HEAD /\nV:a\nC:n\n\n", writes[i], statuses[i], true, 0);
        }
    }

    private static void notSpoiled() {
        KIT.sentence("and a job on the other upstream that asks for that path");
        String[] others = {"PUT /y\n\n", "PUT /\nM:9\n\n", "PUT /\nK:q\n\n", "DELETE /\nN:*\n\n", "DELETE /y\n\n", "HEAD /y\n\n"};
        int[] statuses = {201, 412, 415, 412, 404, 404};
        for (int i = 0; i < others.length; i++) {
            dueSpoiling("GET /\n\n", others[i], statuses[i], true, 1);
            dueSpoiling("GET /\n\n", others[i], statuses[i], false, 1);
        }
        EdgeCache x = withLetters("a");
        Kit.send(x, 0, "DELETE /q\n\nPUT /\nP:s9\n\nGET /\n\n");
        work(x, 1, "a PUT", 204);
        work(x, 1, "a job that waited when it arrived", 200);
        KIT.due("stored() after a job that waited", x.stored(), 1);

        EdgeCache y = withLetters("a");
        Kit.send(y, 0, "GET /\n\nPUT /\nP:s9\n\n");
        work(y, 1, "a PUT", 204);
        work(y, 0, "a spoiled job", 200);
        KIT.due("stored() after a spoiled job", y.stored(), 0);
        Kit.send(y, 0, "GET /\n\n");
        work(y, 0, "the next job", 200);
        KIT.due("stored() after the next job", y.stored(), 1);

        EdgeCache z = withLetters("a");
        Kit.send(z, 0, "PUT /\nP:s9\n\n");
        z.pass(9);
        Kit.send(z, 0, "GET /\n\n");
        z.origin(0);
        KIT.due("pass(1)", z.pass(1), 1);
        work(z, 1, "a job beside a PUT that ended", 200);
        KIT.due("stored() after a job beside a PUT that ended", z.stored(), 1);
    }

    private static void spoiledAnswers() {
        KIT.sentence("Unless the job is spoiled, all stored with that path that fit the request");
        EdgeCache x = withLetters("a");
        Kit.send(x, 0, "GET /\n\nPUT /\nP:s9\nL:1\n\ny");
        Kit.send(x, 1, "GET /\n\n");
        work(x, 1, "a PUT", 204);
        work(x, 1, "a job behind it", 200);
        KIT.dueStore(x, "after the job behind it", 1, 23);
        x.pass(2);
        work(x, 0, "the spoiled job", 200);
        KIT.due("its answer and the PUT's", Kit.read(x, 0), "200\nE:2\nK:a\nP:s9\nL:1\n\ny204\nE:2\nL:0\n\n");
        KIT.dueStore(x, "after the spoiled job", 1, 23);
        Kit.read(x, 1);
        KIT.due("the stored one stays as it was", Kit.ask(x, 1, "HEAD /\n\n"), "200\nE:2\nK:a\nP:s9\nA:2\nL:1\n\n");
    }

    private static void goneForTheRequest() {
        KIT.sentence("404 or 406: that is the answer, and the stored one that fits the request goes");
        EdgeCache x = twoPaths();
        Kit.fetch(x, 0, "GET /\nV:a\n\n");
        Kit.fetch(x, 0, "GET /\nV:b\n\n");
        Kit.fetch(x, 0, "GET /y\n\n");
        Kit.ask(x, 2, "DELETE /\n\n");
        KIT.due("the answer for V:c", Kit.fetch(x, 0, "GET /\nV:c\n\n"), Kit.bare(404));
        KIT.dueStore(x, "after 404 for another V", 3, 77);
        KIT.due("the answer for V:a", Kit.fetch(x, 0, "GET /\nV:a\nC:n\n\n"), Kit.bare(404));
        KIT.dueStore(x, "after 404 for V:a", 2, 50);
        KIT.due("V:b is there yet", Kit.ask(x, 0, "HEAD /\nV:b\n\n"), "200\nE:2\nK:b\nY:V\nP:s9\nA:0\nL:1\n\n");

        EdgeCache y = withLetters("a");
        Kit.fetch(y, 0, "GET /\n\n");
        Kit.ask(y, 2, Kit.put("/", "b", "s9", "x"));
        KIT.due("the answer for V:c", Kit.fetch(y, 0, "GET /\nV:c\nC:n\n\n"), Kit.bare(406));
        KIT.dueStore(y, "after 406", 0, 0);

        EdgeCache z = withLetters("ab");
        Kit.fetch(z, 0, "GET /\nV:a\n\n");
        KIT.due("the answer for V:a0", Kit.fetch(z, 0, "GET /\nV:a0\n\n"), Kit.bare(406));
        KIT.dueStore(z, "after 406 for another V", 1, 27);
    }

    private static void goneForASpoiledJob() {
        KIT.sentence("(also if the job is spoiled)");
        String[] writes = {"DELETE /\n\n", Kit.put("/", "b", "s9", "x")};
        int[] statuses = {404, 406};
        for (int i = 0; i < writes.length; i++) {
            EdgeCache x = withLetters("a");
            Kit.send(x, 0, "GET /\nV:c\n\nPUT /\nP:s9\n\n");
            Kit.send(x, 1, "GET /\n\n");
            work(x, 1, "a PUT", 204);
            work(x, 1, "a job behind it", 200);
            KIT.dueStore(x, "after the job behind it", 1, 22);
            Kit.ask(x, 2, writes[i]);
            work(x, 0, "the spoiled job", statuses[i]);
            KIT.dueStore(x, "after " + statuses[i] + " to the spoiled job", 0, 0);
        }
    }

    private static void policyOfTheResponse() {
        KIT.sentence("with the policy, and varying or not, as the resource had them when the origin responded");
        EdgeCache x = withLetters("a");
        Kit.fetch(x, 0, "GET /\n\n");
        Kit.send(x, 0, "GET /\nC:n\n\n");
        Kit.ask(x, 2, Kit.put("/", "a", "s8", "x"));
        KIT.due("origin(0)", x.origin(0), 304);
        Kit.ask(x, 2, Kit.put("/", "a", "s7", "x") + Kit.put("/", "b", "s7", "x"));
        KIT.due("arrive(0)", x.arrive(0), 304);
        KIT.due("the policy between", Kit.read(x, 0), "200\nE:1\nK:a\nP:s8\nL:1\n\nx");
        Kit.send(x, 0, "GET /\nC:n\n\n");
        work(x, 0, "a job when it varies", 304);
        KIT.due("the policy then", Kit.read(x, 0), "200\nE:1\nK:a\nY:V\nP:s7\nL:1\n\nx");
        KIT.dueStore(x, "that varies", 1, 27);
        Kit.send(x, 0, "GET /\nC:n\n\n");
        Kit.ask(x, 2, "PUT /\nL:1\n\nx");
        work(x, 0, "a job when the policy is empty", 304);
        KIT.due("the policy at the end", Kit.read(x, 0), "200\nE:1\nK:a\nY:V\nL:1\n\nx");
        KIT.dueStore(x, "without a policy", 1, 22);
    }

    private static void selectedWithoutAge() {
        KIT.sentence("and the answer is what selecting answers, without A");
        String[] lines = {"", "R:0-\n", "N:1\n", "M:2\n", "R:1-\n"};
        String[] answers = {"200\nE:1\nK:a\nP:s9\nL:1\n\nx", "206\nE:1\nK:a\nP:s9\nR:0-0/1\nL:1\n\nx", "304\nE:1\nK:a\nP:s9\n\n",
            Kit.bare(412), "416\nR:*/1\nL:0\n\n"};
        for (int i = 0; i < lines.length; i++) {
            EdgeCache x = withLetters("a");
            Kit.send(x, 0, "GET /\n" + lines[i] + "\n");
            x.pass(3);
            work(x, 0, "'" + lines[i] + "'", 200);
            KIT.due("the answer with 200", Kit.read(x, 0), answers[i]);
            Kit.send(x, 0, "GET /\nC:n\n" + lines[i] + "\n");
            x.pass(3);
            work(x, 0, "'" + lines[i] + "'", 304);
            KIT.due("the answer with 304", Kit.read(x, 0), answers[i]);
        }
    }
}
