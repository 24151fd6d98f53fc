import java.util.ArrayList;

/** An origin server with a store of resources, and a shared cache in front of it. */
public final class EdgeCache {
    public static final int NONE = -1;

    private static final int CONNECTIONS = 3;
    private static final int TO_ORIGIN = 2;
    private static final int UPSTREAMS = 2;
    private static final int LARGEST_CAPACITY = 300;
    private static final int LONGEST_PASS = 1000;
    private static final int PATIENCE = 10;
    private static final char LF = '\n';

    private final Connection[] connections = new Connection[CONNECTIONS];
    private final Origin server = new Origin();
    private final Store store;
    private final Sheet sheet = new Sheet();
    private final Job[] sentJobs = new Job[UPSTREAMS];
    private final ArrayList<Job> waitingJobs = new ArrayList<>();
    private int now;

    public EdgeCache(int capacity) {
        store = new Store(Math.max(0, Math.min(capacity, LARGEST_CAPACITY)));
        for (int c = 0; c < CONNECTIONS; c++) {
            connections[c] = new Connection();
        }
    }

    public int feed(int c, long eight) {
        if (!isConnection(c)) {
            return 0;
        }
        Connection connection = connections[c];
        int taken = 0;
        for (int shift = 56; shift >= 0; shift -= 8) {
            int next = (int) (eight >>> shift) & 255;
            if (next == 0) {
                continue;
            }
            if (!connection.mayTake()) {
                break;
            }
            taken++;
            int outcome = connection.reader.take(next);
            if (outcome != Reader.MORE) {
                handle(c, outcome);
            }
        }
        return taken;
    }

    public long out(int c) {
        return isConnection(c) ? connections[c].takeEight() : 0L;
    }

    public int pending(int c) {
        return isConnection(c) ? connections[c].outputLength : NONE;
    }

    public int waiting(int c) {
        return isConnection(c) ? connections[c].unanswered() : NONE;
    }

    public boolean open(int c) {
        return isConnection(c) && !connections[c].shut;
    }

    public int pass(int n) {
        if (n < 0 || n > LONGEST_PASS) {
            return NONE;
        }
        now += n;
        int ended = 0;
        for (int u = 0; u < UPSTREAMS; u++) {
            Job job = sentJobs[u];
            if (job != null && now - job.sentAt >= PATIENCE) {
                job.request.answer = sheet.bare(504, 0);
                sentJobs[u] = null;
                ended++;
            }
        }
        sendWaiting();
        deliver();
        return ended;
    }

    public int origin(int u) {
        Job job = jobOn(u);
        if (job == null || job.isDone()) {
            return NONE;
        }
        server.work(job);
        return job.status;
    }

    public int arrive(int u) {
        Job job = jobOn(u);
        if (job == null || !job.isDone()) {
            return NONE;
        }
        job.request.answer = answerTo(job);
        if (job.request.isRead()) {
            takeRead(job);
        } else if (job.status == 201 || job.status == 204) {
            store.dropPath(job.request.path);
            spoil(jobOn(1 - u), job.request.path);
        }
        sentJobs[u] = null;
        sendWaiting();
        deliver();
        return job.status;
    }

    public int upstream(int u) {
        if (!isUpstream(u)) {
            return NONE;
        }
        Job job = sentJobs[u];
        if (job == null) {
            return 0;
        }
        return job.isDone() ? 2 : 1;
    }

    public int queue() {
        return waitingJobs.size();
    }

    public int stored() {
        return store.count();
    }

    public int bytes() {
        return store.total;
    }

    public int tag() {
        return server.latestTag;
    }

    public int clock() {
        return now;
    }

    private static boolean isConnection(int c) {
        return c >= 0 && c < CONNECTIONS;
    }

    private static boolean isUpstream(int u) {
        return u >= 0 && u < UPSTREAMS;
    }

    private Job jobOn(int u) {
        return isUpstream(u) ? sentJobs[u] : null;
    }

    private void handle(int c, int outcome) {
        Connection connection = connections[c];
        Request request = connection.reader.finish();
        connection.enlist(request);
        if (outcome != Reader.COMPLETE) {
            connection.shut = true;
            request.answer = sheet.bare(outcome, 0);
        } else if (c == TO_ORIGIN) {
            Job job = new Job(request, 0);
            server.work(job);
            request.answer = answerTo(job);
        } else {
            handleAtCache(request);
        }
        connection.deliver();
    }

    private void handleAtCache(Request request) {
        Stored fitting = request.isRead() ? store.fitting(request) : null;
        if (fitting != null && mayAnswer(fitting, request)) {
            store.use(fitting);
            request.answer = sheet.select(fitting.representation, request, now - fitting.time);
            return;
        }
        waitingJobs.add(new Job(request, fitting == null ? 0 : fitting.representation.tag));
        sendWaiting();
    }

    private boolean mayAnswer(Stored fitting, Request request) {
        String policy = fitting.representation.policy;
        int age = now - fitting.time;
        if (age >= fitting.lifetime() || Text.counts(policy, 'n') || Text.counts(request.control, 'n')) {
            return false;
        }
        int oldest = Text.number(request.control, 'a');
        return oldest < 0 || oldest >= age;
    }

    private String answerTo(Job job) {
        if (job.response != null) {
            return sheet.select(job.response, job.request, Sheet.NO_AGE);
        }
        return sheet.bare(job.status, job.givenTag);
    }

    private void takeRead(Job job) {
        Request request = job.request;
        Representation arrived = job.response;
        if (arrived == null) {
            store.dropFitting(request);
            return;
        }
        if (job.spoiled) {
            return;
        }
        store.dropReplaced(request, arrived.varies);
        boolean forbidden = Text.counts(arrived.policy, 'x') || Text.counts(arrived.policy, 'p')
                || Text.counts(request.control, 'x');
        if (!forbidden) {
            store.keep(new Stored(arrived, request, job.sentAt, sheet.sizeOf(arrived)));
        }
    }

    private static void spoil(Job other, String path) {
        if (other != null && other.request.isRead() && other.request.path.equals(path)) {
            other.spoiled = true;
        }
    }

    private void sendWaiting() {
        for (int u = 0; u < UPSTREAMS; u++) {
            if (sentJobs[u] == null && !waitingJobs.isEmpty()) {
                Job first = waitingJobs.remove(0);
                first.sentAt = now;
                sentJobs[u] = first;
            }
        }
    }

    private void deliver() {
        for (int c = 0; c < CONNECTIONS; c++) {
            connections[c].deliver();
        }
    }

    /** What a connection has brought and what it has still to carry away. */
    private static final class Connection {
        private static final int MOST_REQUESTS = 20;
        private static final int MOST_UNANSWERED = 4;
        private static final int FULL_OUTPUT = 200;
        // Bytes are taken below 200 alone; four answers of under 80 bytes each may still follow then.
        private static final int OUTPUT_ROOM = 640;

        final Reader reader = new Reader();
        private final Request[] requests = new Request[MOST_REQUESTS];
        private final char[] output = new char[OUTPUT_ROOM];
        private int handled;
        private int answered;
        int outputLength;
        boolean shut;

        boolean mayTake() {
            return !shut && handled < MOST_REQUESTS && unanswered() < MOST_UNANSWERED
                    && outputLength < FULL_OUTPUT;
        }

        int unanswered() {
            return handled - answered;
        }

        void enlist(Request request) {
            if (handled < MOST_REQUESTS) {
                requests[handled] = request;
                handled++;
            }
        }

        void deliver() {
            while (answered < handled && requests[answered].answer != null) {
                write(requests[answered].answer);
                answered++;
            }
        }

        private void write(String answer) {
            for (int i = 0; i < answer.length() && outputLength < OUTPUT_ROOM; i++) {
                output[outputLength] = answer.charAt(i);
                outputLength++;
            }
        }

        long takeEight() {
            int count = Math.min(8, outputLength);
            long number = 0;
            for (int i = 0; i < count; i++) {
                number = number * 256 + output[i];
            }
            outputLength -= count;
            System.arraycopy(output, count, output, 0, outputLength);
            return number;
        }
    }

    /** Makes requests of the bytes of one connection. */
    private static final class Reader {
        // What take answers beside the status of a refusal.
        static final int MORE = 0;
        static final int COMPLETE = 1;

        private static final int REQUEST_LINE = 0;
        private static final int HEADER_LINE = 1;
        private static final int BODY = 2;
        private static final int CHUNK_LINE = 3;
        private static final int CHUNK_BODY = 4;
        private static final int CHUNK_END = 5;
        private static final int TRAILER_LINE = 6;

        private static final int LONGEST_LINE = 20;
        private static final int LONGEST_PATH = 8;
        private static final int LONGEST_VALUE = 8;
        private static final int LONGEST_BODY = 8;
        private static final int MOST_HEADERS = 8;

        private final StringBuilder line = new StringBuilder();
        private final StringBuilder body = new StringBuilder();
        private final StringBuilder scratch = new StringBuilder();
        private Request request = new Request();
        private int part = REQUEST_LINE;
        private int headers;
        private int length = NONE;
        private boolean chunked;
        private int left;

        int take(int next) {
            if (part == BODY || part == CHUNK_BODY) {
                return takeBody(next);
            }
            if (part == CHUNK_END) {
                part = CHUNK_LINE;
                return next == LF ? MORE : 400;
            }
            if (next == LF) {
                String text = line.toString();
                line.setLength(0);
                return judge(text);
            }
            if (line.length() >= LONGEST_LINE) {
                return 431;
            }
            line.append((char) next);
            return MORE;
        }

        /** The request that is complete or refused; the next one begins. */
        Request finish() {
            Request finished = request;
            finished.body = body.toString();
            request = new Request();
            body.setLength(0);
            part = REQUEST_LINE;
            headers = 0;
            length = NONE;
            chunked = false;
            return finished;
        }

        private int takeBody(int next) {
            body.append((char) next);
            left--;
            if (left > 0) {
                return MORE;
            }
            if (part == BODY) {
                return COMPLETE;
            }
            part = CHUNK_END;
            return MORE;
        }

        private int judge(String text) {
            switch (part) {
                case REQUEST_LINE:
                    return text.isEmpty() ? MORE : judgeRequestLine(text);
                case HEADER_LINE:
                    return text.isEmpty() ? endHeaders() : judgeHeader(text);
                case CHUNK_LINE:
                    return judgeChunk(text);
                default:
                    return text.isEmpty() ? COMPLETE : MORE;
            }
        }

        private int judgeRequestLine(String text) {
            int space = text.indexOf(' ');
            if (space < 0) {
                return 400;
            }
            request.method = Request.methodNamed(text.substring(0, space));
            String decoded = Text.decoded(text.substring(space + 1), scratch);
            if (request.method == NONE || decoded == null) {
                return 400;
            }
            request.path = Text.path(decoded, scratch);
            part = HEADER_LINE;
            return request.path.length() > LONGEST_PATH ? 414 : MORE;
        }

        private int judgeHeader(String text) {
            if (headers >= MOST_HEADERS) {
                return 431;
            }
            headers++;
            if (!isHeader(text)) {
                return 400;
            }
            char letter = text.charAt(0);
            String value = text.substring(2);
            if (value.length() > LONGEST_VALUE) {
                return 431;
            }
            if (letter == 'L') {
                return takeLength(value);
            }
            if (letter == 'T') {
                chunked = true;
                return value.equals("c") ? MORE : 400;
            }
            request.set(letter, value);
            return MORE;
        }

        private static boolean isHeader(String text) {
            if (text.length() < 2 || text.charAt(0) < 'A' || text.charAt(0) > 'Z' || text.charAt(1) != ':') {
                return false;
            }
            for (int i = 2; i < text.length(); i++) {
                if (text.charAt(i) < 32 || text.charAt(i) > 126) {
                    return false;
                }
            }
            return true;
        }

        private int takeLength(String value) {
            int number = value.length() > 2 ? Text.MISSING : Text.whole(value, 0, value.length());
            if (number == Text.MISSING || length != NONE && length != number) {
                return 400;
            }
            length = number;
            return MORE;
        }

        private int endHeaders() {
            if (chunked) {
                part = CHUNK_LINE;
                return length == NONE ? MORE : 400;
            }
            if (length > LONGEST_BODY) {
                return 413;
            }
            if (length <= 0) {
                return COMPLETE;
            }
            left = length;
            part = BODY;
            return MORE;
        }

        private int judgeChunk(String text) {
            int size = text.length() == 1 ? Text.hexadecimal(text.charAt(0)) : NONE;
            if (size == NONE) {
                return 400;
            }
            if (size == 0) {
                part = TRAILER_LINE;
                return MORE;
            }
            if (body.length() + size > LONGEST_BODY) {
                return 413;
            }
            left = size;
            part = CHUNK_BODY;
            return MORE;
        }
    }

    /** A request, and its answer once that is ready; a value that was not given is null. */
    private static final class Request {
        static final int GET = 0;
        static final int HEAD = 1;
        static final int PUT = 2;
        static final int DELETE = 3;

        int method = NONE;
        String path = "";
        String body = "";
        String match;
        String noneMatch;
        String range;
        String ifRange;
        String control;
        String variant;
        String letter;
        String policy;
        String answer;

        static int methodNamed(String name) {
            if (name.equals("GET")) {
                return GET;
            }
            if (name.equals("HEAD")) {
                return HEAD;
            }
            if (name.equals("PUT")) {
                return PUT;
            }
            return name.equals("DELETE") ? DELETE : NONE;
        }

        boolean isRead() {
            return method == GET || method == HEAD;
        }

        void set(char header, String value) {
            switch (header) {
                case 'M':
                    match = value;
                    break;
                case 'N':
                    noneMatch = value;
                    break;
                case 'R':
                    range = value;
                    break;
                case 'I':
                    ifRange = value;
                    break;
                case 'C':
                    control = value;
                    break;
                case 'V':
                    variant = value;
                    break;
                case 'K':
                    letter = value;
                    break;
                case 'P':
                    policy = value;
                    break;
                default:
                    break;
            }
        }
    }

    /** What the bytes of a text say. */
    private static final class Text {
        static final int MISSING = -1;
        static final int ABSENT = -2;
        private static final String CAPITAL_DIGITS = "0123456789ABCDEF";

        static boolean counts(String value, char letter) {
            return number(value, letter) != ABSENT;
        }

        /** The number of the last such letter; MISSING or ABSENT, which are below 0, when there is none. */
        static int number(String value, char letter) {
            int number = ABSENT;
            boolean behindLetter = false;
            for (int i = 0; value != null && i < value.length(); i++) {
                char next = value.charAt(i);
                if (next == letter) {
                    number = MISSING;
                    behindLetter = true;
                } else if (behindLetter && isDigit(next)) {
                    number = Math.max(number, 0) * 10 + (next - '0');
                } else {
                    behindLetter = false;
                }
            }
            return number;
        }

        /** The number that the bytes from .. to - 1 say; MISSING unless they are digits, at least one. */
        static int whole(String value, int from, int to) {
            int number = from < to ? 0 : MISSING;
            for (int i = from; i < to && i < value.length(); i++) {
                int digit = value.charAt(i) - '0';
                if (digit < 0 || digit > 9) {
                    return MISSING;
                }
                number = number * 10 + digit;
            }
            return number;
        }

        static boolean matches(String value, int tag) {
            if (value.equals("*")) {
                return true;
            }
            int from = 0;
            for (int i = 0; i <= value.length(); i++) {
                if (i == value.length() || value.charAt(i) == ',') {
                    if (whole(value, from, i) == tag) {
                        return true;
                    }
                    from = i + 1;
                }
            }
            return false;
        }

        static int hexadecimal(char digit) {
            if (isDigit(digit)) {
                return digit - '0';
            }
            if (digit >= 'A' && digit <= 'F') {
                return digit - 'A' + 10;
            }
            return digit >= 'a' && digit <= 'f' ? digit - 'a' + 10 : NONE;
        }

        /** The target with its % pairs decoded or in capitals; null when it is no target. */
        static String decoded(String target, StringBuilder decoded) {
            if (target.isEmpty() || target.charAt(0) != '/') {
                return null;
            }
            decoded.setLength(0);
            for (int i = 0; i < target.length(); i++) {
                char next = target.charAt(i);
                if (next < 33 || next > 126) {
                    return null;
                }
                if (next != '%') {
                    decoded.append(next);
                    continue;
                }
                int high = i + 2 < target.length() ? hexadecimal(target.charAt(i + 1)) : NONE;
                int low = i + 2 < target.length() ? hexadecimal(target.charAt(i + 2)) : NONE;
                if (high == NONE || low == NONE) {
                    return null;
                }
                appendPair(decoded, high, low);
                i += 2;
            }
            return decoded.toString();
        }

        private static void appendPair(StringBuilder decoded, int high, int low) {
            char meant = (char) (high * 16 + low);
            if (isPlain(meant)) {
                decoded.append(meant);
                return;
            }
            decoded.append('%');
            decoded.append(CAPITAL_DIGITS.charAt(high));
            decoded.append(CAPITAL_DIGITS.charAt(low));
        }

        /** The path of a decoded target, its dot segments gone. */
        static String path(String decoded, StringBuilder kept) {
            int mark = decoded.indexOf('?');
            int end = mark < 0 ? decoded.length() : mark;
            kept.setLength(0);
            int from = 1;
            for (int i = 1; i <= end; i++) {
                if (i == end || decoded.charAt(i) == '/') {
                    addSegment(kept, decoded.substring(from, i), i == end);
                    from = i + 1;
                }
            }
            kept.append(decoded.substring(end, decoded.length()));
            return kept.toString();
        }

        private static void addSegment(StringBuilder kept, String segment, boolean last) {
            boolean up = segment.equals("..");
            if (!up && !segment.equals(".")) {
                kept.append('/');
                kept.append(segment);
                return;
            }
            if (up) {
                kept.setLength(lastSlash(kept));
            }
            if (last) {
                kept.append('/');
            }
        }

        private static int lastSlash(StringBuilder kept) {
            for (int i = kept.length() - 1; i >= 0; i--) {
                if (kept.charAt(i) == '/') {
                    return i;
                }
            }
            return 0;
        }

        private static boolean isDigit(char c) {
            return c >= '0' && c <= '9';
        }

        private static boolean isPlain(char c) {
            return isDigit(c) || c >= 'A' && c <= 'Z' || c >= 'a' && c <= 'z'
                    || c == '-' || c == '.' || c == '_' || c == '~';
        }
    }

    /** A letter's body with its tag, under the policy of its resource; it never changes. */
    private static final class Representation {
        final char letter;
        final String body;
        final int tag;
        final String policy;
        final boolean varies;

        Representation(char letter, String body, int tag, String policy, boolean varies) {
            this.letter = letter;
            this.body = body;
            this.tag = tag;
            this.policy = policy;
            this.varies = varies;
        }
    }

    /** A resource of the origin: its representations, by letter. */
    private static final class Resource {
        static final int LETTERS = 3;
        private static final int QUALITY_WITHOUT_NUMBER = 9;

        final String path;
        private final Representation[] byLetter = new Representation[LETTERS];

        Resource(String path) {
            this.path = path;
        }

        /** The place of a PUT's letter; NONE when it is no letter. */
        static int placeOf(String letter) {
            if (letter == null) {
                return 0;
            }
            int place = letter.length() == 1 ? letter.charAt(0) - 'a' : NONE;
            return place >= 0 && place < LETTERS ? place : NONE;
        }

        Representation at(int place) {
            return place >= 0 && place < LETTERS ? byLetter[place] : null;
        }

        Representation least() {
            for (int i = 0; i < LETTERS; i++) {
                if (byLetter[i] != null) {
                    return byLetter[i];
                }
            }
            return null;
        }

        Representation choose(String variant) {
            if (variant == null || letterCount() == 1) {
                return least();
            }
            Representation best = null;
            int bestQuality = 0;
            for (int i = 0; i < LETTERS; i++) {
                int number = byLetter[i] == null ? Text.ABSENT : Text.number(variant, byLetter[i].letter);
                int quality = number == Text.MISSING ? QUALITY_WITHOUT_NUMBER : Math.max(number, 0);
                if (quality > bestQuality) {
                    best = byLetter[i];
                    bestQuality = quality;
                }
            }
            return best;
        }

        void set(int place, String body, int tag, String policy) {
            if (place < 0 || place >= LETTERS) {
                return;
            }
            byLetter[place] = new Representation((char) ('a' + place), body, tag, policy, false);
            boolean varies = letterCount() > 1;
            for (int i = 0; i < LETTERS; i++) {
                Representation old = byLetter[i];
                if (old != null) {
                    byLetter[i] = new Representation(old.letter, old.body, old.tag, policy, varies);
                }
            }
        }

        private int letterCount() {
            int count = 0;
            for (int i = 0; i < LETTERS; i++) {
                if (byLetter[i] != null) {
                    count++;
                }
            }
            return count;
        }
    }

    /** The origin server. */
    private static final class Origin {
        private static final int MOST_RESOURCES = 6;

        private final ArrayList<Resource> resources = new ArrayList<>();
        int latestTag;

        void work(Job job) {
            if (job.request.method == Request.PUT) {
                put(job);
            } else if (job.request.method == Request.DELETE) {
                delete(job);
            } else {
                read(job);
            }
        }

        private void read(Job job) {
            int index = indexOf(job.request.path);
            if (index == NONE) {
                job.status = 404;
                return;
            }
            Representation chosen = resources.get(index).choose(job.request.variant);
            if (chosen == null) {
                job.status = 406;
                return;
            }
            // A tag stands for one letter and body for ever: with 304 this is the copy under the policy of now.
            job.response = chosen;
            job.status = chosen.tag == job.copyTag ? 304 : 200;
        }

        private void put(Job job) {
            Request request = job.request;
            int place = Resource.placeOf(request.letter);
            if (place == NONE) {
                job.status = 415;
                return;
            }
            int index = indexOf(request.path);
            Representation old = index == NONE ? null : resources.get(index).at(place);
            if (isForbidden(request, old)) {
                job.status = 412;
                return;
            }
            if (index == NONE && resources.size() >= MOST_RESOURCES) {
                job.status = 507;
                return;
            }
            Resource resource = index == NONE ? new Resource(request.path) : resources.get(index);
            if (index == NONE) {
                resources.add(resource);
            }
            if (old == null || !old.body.equals(request.body)) {
                latestTag++;
                job.givenTag = latestTag;
            } else {
                job.givenTag = old.tag;
            }
            resource.set(place, request.body, job.givenTag, request.policy == null ? "" : request.policy);
            job.status = old == null ? 201 : 204;
        }

        private void delete(Job job) {
            int index = indexOf(job.request.path);
            if (index == NONE) {
                job.status = 404;
            } else if (isForbidden(job.request, resources.get(index).least())) {
                job.status = 412;
            } else {
                resources.remove(index);
                job.status = 204;
            }
        }

        private static boolean isForbidden(Request request, Representation old) {
            if (request.match != null && (old == null || !Text.matches(request.match, old.tag))) {
                return true;
            }
            return request.noneMatch != null && old != null && Text.matches(request.noneMatch, old.tag);
        }

        private int indexOf(String path) {
            for (int i = 0; i < resources.size(); i++) {
                if (resources.get(i).path.equals(path)) {
                    return i;
                }
            }
            return NONE;
        }
    }

    /** A request on its way to the origin, and what the origin said. */
    private static final class Job {
        final Request request;
        // 0 when there is no copy; a tag alone tells what the copy is.
        final int copyTag;
        int sentAt;
        int status;
        Representation response;
        int givenTag;
        boolean spoiled;

        Job(Request request, int copyTag) {
            this.request = request;
            this.copyTag = copyTag;
        }

        boolean isDone() {
            return status != 0;
        }
    }

    /** A response that the cache has stored. */
    private static final class Stored {
        final Representation representation;
        final String path;
        private final String variant;
        final int time;
        final int size;

        Stored(Representation representation, Request request, int time, int size) {
            this.representation = representation;
            this.path = request.path;
            this.variant = request.variant;
            this.time = time;
            this.size = size;
        }

        boolean fits(Request request) {
            return path.equals(request.path) && (!representation.varies || hasVariant(request.variant));
        }

        private boolean hasVariant(String other) {
            if (variant == null || other == null) {
                return variant == null && other == null;
            }
            return variant.equals(other);
        }

        int lifetime() {
            int shared = Text.number(representation.policy, 's');
            return shared >= 0 ? shared : Math.max(0, Text.number(representation.policy, 'm'));
        }
    }

    /** The stored responses, the one used longest ago first. */
    private static final class Store {
        private final ArrayList<Stored> byUse = new ArrayList<>();
        private final int capacity;
        int total;

        Store(int capacity) {
            this.capacity = capacity;
        }

        int count() {
            return byUse.size();
        }

        Stored fitting(Request request) {
            for (int i = 0; i < byUse.size(); i++) {
                if (byUse.get(i).fits(request)) {
                    return byUse.get(i);
                }
            }
            return null;
        }

        void use(Stored used) {
            for (int i = 0; i < byUse.size(); i++) {
                if (byUse.get(i) == used) {
                    byUse.remove(i);
                    byUse.add(used);
                    return;
                }
            }
        }

        void dropPath(String path) {
            for (int i = byUse.size() - 1; i >= 0; i--) {
                if (byUse.get(i).path.equals(path)) {
                    drop(i);
                }
            }
        }

        void dropFitting(Request request) {
            for (int i = byUse.size() - 1; i >= 0; i--) {
                if (byUse.get(i).fits(request)) {
                    drop(i);
                }
            }
        }

        void dropReplaced(Request request, boolean varies) {
            for (int i = byUse.size() - 1; i >= 0; i--) {
                Stored old = byUse.get(i);
                boolean otherwise = old.path.equals(request.path) && old.representation.varies != varies;
                if (otherwise || old.fits(request)) {
                    drop(i);
                }
            }
        }

        void keep(Stored arrived) {
            if (arrived.size > capacity) {
                return;
            }
            for (int left = byUse.size(); left > 0 && total + arrived.size > capacity; left--) {
                drop(0);
            }
            byUse.add(arrived);
            total += arrived.size;
        }

        private void drop(int index) {
            if (index >= 0 && index < byUse.size()) {
                total -= byUse.get(index).size;
                byUse.remove(index);
            }
        }
    }

    /** Writes the answers. */
    private static final class Sheet {
        static final int NO_AGE = -1;
        private static final int MOST_PIECES = 2;

        private final StringBuilder text = new StringBuilder();
        private final int[] firsts = new int[MOST_PIECES];
        private final int[] lasts = new int[MOST_PIECES];
        private int pieces;

        /** An answer without a representation; tag 0 is none. */
        String bare(int status, int tag) {
            begin(status);
            if (tag > 0) {
                numberLine('E', tag);
            }
            numberLine('L', 0);
            text.append(LF);
            return text.toString();
        }

        String select(Representation chosen, Request request, int age) {
            if (request.match != null && !Text.matches(request.match, chosen.tag)) {
                return bare(412, 0);
            }
            if (request.noneMatch != null && Text.matches(request.noneMatch, chosen.tag)) {
                describe(304, chosen, age);
                text.append(LF);
                return text.toString();
            }
            if (asksForPart(request, chosen.tag) && readPieces(request.range, chosen.body.length())) {
                return part(chosen, age);
            }
            whole(chosen, age, request.method == Request.GET);
            return text.toString();
        }

        int sizeOf(Representation representation) {
            whole(representation, NO_AGE, true);
            return text.length();
        }

        private void begin(int status) {
            text.setLength(0);
            text.append(status);
            text.append(LF);
        }

        private void numberLine(char name, int number) {
            text.append(name);
            text.append(':');
            text.append(number);
            text.append(LF);
        }

        private void describe(int status, Representation chosen, int age) {
            begin(status);
            numberLine('E', chosen.tag);
            text.append("K:");
            text.append(chosen.letter);
            text.append(LF);
            if (chosen.varies) {
                text.append("Y:V\n");
            }
            if (!chosen.policy.isEmpty()) {
                text.append("P:");
                text.append(chosen.policy);
                text.append(LF);
            }
            if (age != NO_AGE) {
                numberLine('A', age);
            }
        }

        private void whole(Representation chosen, int age, boolean withBody) {
            describe(200, chosen, age);
            numberLine('L', chosen.body.length());
            text.append(LF);
            if (withBody) {
                text.append(chosen.body);
            }
        }

        private String part(Representation chosen, int age) {
            if (pieces == 0) {
                begin(416);
                text.append("R:*/");
                text.append(chosen.body.length());
                text.append("\nL:0\n\n");
                return text.toString();
            }
            describe(206, chosen, age);
            if (pieces == 1) {
                onePiece(chosen.body);
            } else {
                twoPieces(chosen.body);
            }
            return text.toString();
        }

        private void onePiece(String body) {
            text.append("R:");
            span(0);
            text.append('/');
            text.append(body.length());
            text.append(LF);
            numberLine('L', lasts[0] - firsts[0] + 1);
            text.append(LF);
            text.append(body.substring(firsts[0], lasts[0] + 1));
        }

        private void twoPieces(String body) {
            numberLine('R', MOST_PIECES);
            int length = 0;
            for (int i = 0; i < MOST_PIECES; i++) {
                // A body has at most 8 bytes, so f-t= is always four; the LF behind is one more.
                length += 5 + lasts[i] - firsts[i] + 1;
            }
            numberLine('L', length);
            text.append(LF);
            for (int i = 0; i < MOST_PIECES; i++) {
                span(i);
                text.append('=');
                text.append(body.substring(firsts[i], lasts[i] + 1));
                text.append(LF);
            }
        }

        private void span(int piece) {
            text.append(firsts[piece]);
            text.append('-');
            text.append(lasts[piece]);
        }

        private static boolean asksForPart(Request request, int tag) {
            if (request.method != Request.GET || request.range == null) {
                return false;
            }
            String condition = request.ifRange;
            return condition == null || Text.whole(condition, 0, condition.length()) == tag;
        }

        /** Whether the range is one that counts; then its pieces that mean a byte are noted. */
        private boolean readPieces(String range, int size) {
            pieces = 0;
            int comma = range.indexOf(',');
            if (comma < 0) {
                return readPiece(range, size);
            }
            return readPiece(range.substring(0, comma), size)
                    && readPiece(range.substring(comma + 1, range.length()), size);
        }

        private boolean readPiece(String piece, int size) {
            int dash = piece.indexOf('-');
            if (dash < 0) {
                return false;
            }
            int left = Text.whole(piece, 0, dash);
            int right = Text.whole(piece, dash + 1, piece.length());
            boolean leftEmpty = dash == 0;
            boolean rightEmpty = dash == piece.length() - 1;
            if (left == Text.MISSING && !leftEmpty || right == Text.MISSING && !rightEmpty) {
                return false;
            }
            if (leftEmpty && rightEmpty || !leftEmpty && !rightEmpty && left > right) {
                return false;
            }
            if (leftEmpty) {
                notePiece(Math.max(0, size - right), size - 1);
            } else {
                notePiece(left, rightEmpty ? size - 1 : Math.min(right, size - 1));
            }
            return true;
        }

        private void notePiece(int first, int last) {
            if (first <= last && pieces < MOST_PIECES) {
                firsts[pieces] = first;
                lasts[pieces] = last;
                pieces++;
            }
        }
    }
}
