/** Reads documents of values in one another, compiles queries that go down into them, and finds nodes. */
public final class TreePaths {
    public static final int NONE = -1;

    private static final int TEXT_LIMIT = 160;
    private static final int FIRST_CODE = 32;
    private static final int LAST_CODE = 126;
    private static final int STRING_LIMIT = 8;
    private static final int VALUE_DIGITS = 6;
    private static final int PLACE_DIGITS = 3;
    private static final int NODE_LIMIT = 40;
    private static final int HOLDER_LIMIT = 6;
    private static final int SELECTOR_LIMIT = 4;
    private static final int NESTED_LIMIT = 4;
    private static final int FOUND_LIMIT = 300;
    private static final int STEP_LIMIT = 1000000;

    private static final int NULL = 0;
    private static final int FALSE = 1;
    private static final int TRUE = 2;
    private static final int NUMBER = 3;
    private static final int STRING = 4;
    private static final int ARRAY = 5;
    private static final int OBJECT = 6;

    private final StringBuilder typed = new StringBuilder();
    private final DocumentReader documentReader = new DocumentReader();
    private final QueryReader queryReader = new QueryReader();
    private final Finder finder = new Finder();
    private final Row foundNodes = new Row();
    private final StringBuilder pathText = new StringBuilder();
    // An ill text must leave the document as it was, so each text is read into the spare one.
    private Document current = new Document();
    private Document spare = new Document();
    private Path compiled = null;
    private int illPlace = NONE;

    public TreePaths() {
    }

    public boolean type(char c) {
        if (c < FIRST_CODE || c > LAST_CODE || typed.length() >= TEXT_LIMIT) {
            return false;
        }
        typed.append(c);
        return true;
    }

    public int document() throws IllegalArgumentException {
        illPlace = documentReader.readInto(spare, takeText());
        if (illPlace != NONE) {
            throw new IllegalArgumentException("the text is no document");
        }
        Document before = current;
        current = spare;
        spare = before;
        foundNodes.clear();
        return current.count;
    }

    public int query() throws IllegalArgumentException {
        illPlace = queryReader.readFrom(takeText());
        if (illPlace != NONE) {
            throw new IllegalArgumentException("the text is no query");
        }
        compiled = queryReader.compiled;
        return compiled.count;
    }

    public int place() {
        return illPlace;
    }

    public int find() throws IllegalStateException, UnsupportedOperationException {
        if (current.count == 0 || compiled == null) {
            throw new IllegalStateException("there is no document, or no query");
        }
        // Cleared first, so that nothing is found if the finder gives up.
        foundNodes.clear();
        foundNodes.addAll(finder.run(current, compiled));
        return foundNodes.count;
    }

    public int found(int k) {
        return k >= 0 && k < foundNodes.count ? foundNodes.nodes[k] : NONE;
    }

    public int kind(int node) {
        return current.has(node) ? current.nodes[node].kind : NONE;
    }

    public int size(int node) {
        return current.has(node) ? current.nodes[node].size : 0;
    }

    public int character(int node, int i) {
        if (kind(node) != STRING || i < 0 || i >= size(node)) {
            return 0;
        }
        return current.nodes[node].string.charAt(i);
    }

    public int outer(int node) {
        return current.has(node) ? current.nodes[node].outer : NONE;
    }

    public int path(int node, int i) {
        if (!current.has(node)) {
            return 0;
        }
        pathText.setLength(0);
        current.appendPath(node, pathText);
        return i >= 0 && i < pathText.length() ? pathText.charAt(i) : 0;
    }

    public int text(int node, int i) {
        return current.has(node) && i >= 0 ? current.sourceCharacter(node, i) : 0;
    }

    private String takeText() {
        String taken = typed.toString();
        typed.setLength(0);
        return taken;
    }

    /** A value: a node of a document, or one that a condition names or works out. */
    private static final class Value {
        int kind = NULL;
        // A number itself, the length of a string, or how many children there are.
        int size = 0;
        String string = "";
        // Where it stands in a document; a value of a condition stands in none.
        int number = NONE;
        String name = "";
        int outer = NONE;
        int placeInOuter = 0;
        // The number of the first node behind this one that doesn't lie below it.
        int after = 0;
        int begin = 0;
        int end = 0;

        void become(int newKind, int newSize, String newString) {
            kind = newKind;
            size = newSize;
            string = newString;
        }

        int childCount() {
            return kind == ARRAY || kind == OBJECT ? size : 0;
        }
    }

    /** The nodes of a document, by their numbers. */
    private static final class Document {
        final Value[] nodes = new Value[NODE_LIMIT];
        final int[][] children = new int[NODE_LIMIT][NODE_LIMIT];
        String source = "";
        int count = 0;

        Document() {
            for (int i = 0; i < NODE_LIMIT; i++) {
                nodes[i] = new Value();
                nodes[i].number = i;
            }
        }

        void restart(String text) {
            source = text;
            count = 0;
        }

        boolean has(int node) {
            return node >= 0 && node < count;
        }

        /** The caller has seen to it that there is room for one more. */
        int add(int outer, String name, int begin) {
            int number = count;
            count++;
            Value value = nodes[number];
            value.become(NULL, 0, "");
            value.name = name;
            value.outer = outer;
            value.begin = begin;
            value.placeInOuter = 0;
            if (has(outer)) {
                Value holder = nodes[outer];
                value.placeInOuter = holder.size;
                children[outer][holder.size] = number;
                holder.size++;
            }
            return number;
        }

        int childAt(int node, int place) {
            return place >= 0 && place < nodes[node].childCount() ? children[node][place] : NONE;
        }

        int childNamed(int node, String name) {
            if (nodes[node].kind != OBJECT) {
                return NONE;
            }
            for (int i = 0; i < nodes[node].size; i++) {
                int child = children[node][i];
                if (nodes[child].name.equals(name)) {
                    return child;
                }
            }
            return NONE;
        }

        void appendPath(int node, StringBuilder to) {
            to.append('$');
            for (int i = 1; i <= node; i++) {
                // Nodes are numbered as they begin: those that end behind this one are on the way to it.
                if (nodes[i].after > node) {
                    appendStep(nodes[i], to);
                }
            }
        }

        private void appendStep(Value value, StringBuilder to) {
            if (nodes[value.outer].kind == OBJECT) {
                to.append("['").append(value.name).append("']");
            } else {
                to.append('[').append(value.placeInOuter).append(']');
            }
        }

        int sourceCharacter(int node, int i) {
            boolean inString = false;
            int left = i;
            for (int at = nodes[node].begin; at < nodes[node].end; at++) {
                char c = source.charAt(at);
                if (c == '"') {
                    inString = !inString;
                }
                if (inString || c != ' ') {
                    if (left == 0) {
                        return c;
                    }
                    left--;
                }
            }
            return 0;
        }
    }

    /** Goes over a text, and keeps the place at which it turned out to be ill. */
    private static final class Cursor {
        // No text has a character with this code.
        static final char END = 0;

        private String source = "";
        int at = 0;
        int illPlace = NONE;

        void restart(String text) {
            source = text;
            at = 0;
            illPlace = NONE;
        }

        char look() {
            return at < source.length() ? source.charAt(at) : END;
        }

        void refuse(int where) {
            illPlace = where;
            throw new IllegalArgumentException("the text is ill");
        }

        void skip() {
            if (at < source.length()) {
                at++;
            }
        }

        boolean passes(char c) {
            if (look() != c) {
                return false;
            }
            skip();
            return true;
        }

        void expect(char c) {
            if (look() != c) {
                refuse(at);
            }
            skip();
        }

        void expectWord(String word) {
            for (int i = 0; i < word.length(); i++) {
                expect(word.charAt(i));
            }
        }

        void expectEnd() {
            if (at < source.length()) {
                refuse(at);
            }
        }

        void skipBlanks() {
            for (int i = 0; i < TEXT_LIMIT && look() == ' '; i++) {
                skip();
            }
        }

        boolean seesDigit() {
            return look() >= '0' && look() <= '9';
        }

        boolean seesLetter() {
            return look() >= 'a' && look() <= 'z';
        }

        boolean seesNumber() {
            return seesDigit() || look() == '-';
        }

        int readNumber(int digitLimit) {
            int begin = at;
            boolean negative = passes('-');
            if (!negative && passes('0')) {
                return 0;
            }
            if (!seesDigit() || look() == '0') {
                refuse(at);
            }
            int number = 0;
            for (int i = 0; i < digitLimit && seesDigit(); i++) {
                number = number * 10 + (look() - '0');
                skip();
            }
            if (seesDigit()) {
                refuse(begin);
            }
            return negative ? -number : number;
        }

        /** Reads a string between two quotes, in which the barred character can't stand. */
        String readString(char quote, char barred) {
            int begin = at;
            expect(quote);
            for (int i = 0; i <= STRING_LIMIT && look() != quote; i++) {
                if (look() == END || look() == barred) {
                    refuse(at);
                }
                if (i == STRING_LIMIT) {
                    refuse(begin);
                }
                skip();
            }
            expect(quote);
            return source.substring(begin + 1, at - 1);
        }

        String readName() {
            int begin = at;
            if (!seesLetter()) {
                refuse(at);
            }
            for (int i = 0; i < STRING_LIMIT && seesLetter(); i++) {
                skip();
            }
            if (seesLetter()) {
                refuse(begin);
            }
            return source.substring(begin, at);
        }

        /** Reads a value that has no children, and whose string has these quotes. */
        void readPlain(Value value, char quote, char barred) {
            if (look() == quote) {
                String string = readString(quote, barred);
                value.become(STRING, string.length(), string);
            } else if (look() == 'n') {
                expectWord("null");
                value.become(NULL, 0, "");
            } else if (look() == 'f') {
                expectWord("false");
                value.become(FALSE, 0, "");
            } else if (look() == 't') {
                expectWord("true");
                value.become(TRUE, 0, "");
            } else {
                value.become(NUMBER, readNumber(VALUE_DIGITS), "");
            }
        }
    }

    /** Reads a text as a document. */
    private static final class DocumentReader {
        private final Cursor cursor = new Cursor();
        private Document target = null;

        /** Answers the place at which the text is ill, or NONE. */
        int readInto(Document document, String text) {
            target = document;
            target.restart(text);
            cursor.restart(text);
            try {
                readValue(NONE, "", 0);
                cursor.expectEnd();
            } catch (IllegalArgumentException e) {
                return cursor.illPlace;
            }
            return NONE;
        }

        private void readValue(int outer, String name, int depth) {
            cursor.skipBlanks();
            if (target.count >= NODE_LIMIT) {
                cursor.refuse(cursor.at);
            }
            int node = target.add(outer, name, cursor.at);
            Value value = target.nodes[node];
            switch (cursor.look()) {
                case '[':
                    readArray(node, depth + 1);
                    break;
                case '{':
                    readObject(node, depth + 1);
                    break;
                default:
                    cursor.readPlain(value, '"', '\\');
                    break;
            }
            value.end = cursor.at;
            value.after = target.count;
            cursor.skipBlanks();
        }

        private void openHolder(int node, int kind, int depth) {
            if (depth > HOLDER_LIMIT) {
                cursor.refuse(cursor.at);
            }
            target.nodes[node].kind = kind;
            cursor.skip();
            cursor.skipBlanks();
        }

        private void readArray(int node, int depth) {
            openHolder(node, ARRAY, depth);
            if (cursor.passes(']')) {
                return;
            }
            int read = 0;
            do {
                readValue(node, "", depth);
                read++;
            } while (read < NODE_LIMIT && cursor.passes(','));
            cursor.expect(']');
        }

        private void readObject(int node, int depth) {
            openHolder(node, OBJECT, depth);
            if (cursor.passes('}')) {
                return;
            }
            int read = 0;
            do {
                readValue(node, readMemberName(node), depth);
                read++;
            } while (read < NODE_LIMIT && cursor.passes(','));
            cursor.expect('}');
        }

        private String readMemberName(int object) {
            cursor.skipBlanks();
            int begin = cursor.at;
            String name = cursor.readString('"', '\\');
            if (target.childNamed(object, name) != NONE) {
                cursor.refuse(begin);
            }
            cursor.skipBlanks();
            cursor.expect(':');
            return name;
        }
    }

    /** A compiled query, or one in a condition. */
    private static final class Path {
        final boolean fromRoot;
        Segment first = null;
        private Segment last = null;
        int count = 0;
        boolean single = true;

        Path(boolean fromRoot) {
            this.fromRoot = fromRoot;
        }

        void add(Segment segment) {
            if (last == null) {
                first = segment;
            } else {
                last.next = segment;
            }
            last = segment;
            count++;
            single = single && segment.isSingle();
        }
    }

    /** A segment of a path, with its selectors. */
    private static final class Segment {
        final boolean below;
        Selector first = null;
        private Selector last = null;
        Segment next = null;

        Segment(boolean below) {
            this.below = below;
        }

        void add(Selector selector) {
            if (last == null) {
                first = selector;
            } else {
                last.next = selector;
            }
            last = selector;
        }

        boolean isSingle() {
            return !below && first != null && first == last
                    && (first.kind == Selector.NAMED || first.kind == Selector.AT_PLACE);
        }
    }

    /** A selector of a segment. */
    private static final class Selector {
        static final int NAMED = 0;
        static final int ALL = 1;
        static final int AT_PLACE = 2;
        static final int STRETCH = 3;
        static final int HOLDING = 4;

        final int kind;
        String name = "";
        // The place itself, or where a stretch begins.
        int from = 0;
        int to = 0;
        int step = 1;
        boolean hasFrom = false;
        boolean hasTo = false;
        Test condition = null;
        Selector next = null;

        Selector(int kind) {
            this.kind = kind;
        }
    }

    /** A condition or a part of one. */
    private static final class Test {
        static final int ANY = 0;
        static final int ALL = 1;
        static final int NOT = 2;
        static final int FINDS = 3;
        static final int COMPARES = 4;

        static final int EQUAL = 0;
        static final int UNEQUAL = 1;
        static final int LESS = 2;
        static final int LESS_OR_EQUAL = 3;
        static final int MORE = 4;
        static final int MORE_OR_EQUAL = 5;

        final int kind;
        Test first = null;
        private Test last = null;
        Test next = null;
        Path path = null;
        Thing left = null;
        int relation = EQUAL;
        Thing right = null;

        Test(int kind) {
            this.kind = kind;
        }

        void add(Test part) {
            if (last == null) {
                first = part;
            } else {
                last.next = part;
            }
            last = part;
        }
    }

    /** A side of a comparison. */
    private static final class Thing {
        static final int WRITTEN = 0;
        static final int OF_PATH = 1;
        static final int LENGTH = 2;
        static final int COUNT = 3;

        final int kind;
        Path path = null;
        Thing inner = null;
        // What is written, or the row for a length or count, so that finding makes no objects.
        final Value value = new Value();

        Thing(int kind) {
            this.kind = kind;
        }
    }

    /** Reads a text as a query; depth is how many of ?, ! and ( are open. */
    private static final class QueryReader {
        private final Cursor cursor = new Cursor();
        Path compiled = null;

        /** Answers the place at which the text is ill, or NONE. */
        int readFrom(String text) {
            cursor.restart(text);
            try {
                // Only a path in a condition may begin with @.
                if (cursor.look() != '$') {
                    cursor.refuse(cursor.at);
                }
                Path whole = readPath(0);
                cursor.expectEnd();
                compiled = whole;
            } catch (IllegalArgumentException e) {
                return cursor.illPlace;
            }
            return NONE;
        }

        private Path readPath(int depth) {
            Path read = new Path(cursor.look() == '$');
            cursor.skip();
            for (int i = 0; i < TEXT_LIMIT && seesSegment(); i++) {
                read.add(readSegment(depth));
            }
            return read;
        }

        private boolean seesPath() {
            return cursor.look() == '@' || cursor.look() == '$';
        }

        private boolean seesSegment() {
            return cursor.look() == '.' || cursor.look() == '[';
        }

        private Segment readSegment(int depth) {
            boolean dot = cursor.passes('.');
            Segment segment = new Segment(dot && cursor.passes('.'));
            if (cursor.look() == '[' && (!dot || segment.below)) {
                readSelectors(segment, depth);
            } else if (cursor.passes('*')) {
                segment.add(new Selector(Selector.ALL));
            } else {
                Selector named = new Selector(Selector.NAMED);
                named.name = cursor.readName();
                segment.add(named);
            }
            return segment;
        }

        private void readSelectors(Segment segment, int depth) {
            cursor.expect('[');
            int read = 0;
            do {
                segment.add(readSelector(depth));
                read++;
            } while (read < SELECTOR_LIMIT && cursor.passes(','));
            cursor.expect(']');
        }

        private Selector readSelector(int depth) {
            Selector read;
            switch (cursor.look()) {
                case '\'':
                    read = new Selector(Selector.NAMED);
                    read.name = cursor.readString('\'', '\'');
                    return read;
                case '*':
                    cursor.skip();
                    return new Selector(Selector.ALL);
                case '?':
                    open('?', depth);
                    read = new Selector(Selector.HOLDING);
                    read.condition = readAny(depth + 1);
                    return read;
                case ':':
                    return readStretch(false, 0);
                default:
                    return readPlaceOrStretch();
            }
        }

        private Selector readPlaceOrStretch() {
            int from = cursor.readNumber(PLACE_DIGITS);
            if (cursor.look() == ':') {
                return readStretch(true, from);
            }
            Selector atPlace = new Selector(Selector.AT_PLACE);
            atPlace.from = from;
            return atPlace;
        }

        private Selector readStretch(boolean hasFrom, int from) {
            Selector stretch = new Selector(Selector.STRETCH);
            stretch.hasFrom = hasFrom;
            stretch.from = from;
            cursor.expect(':');
            if (cursor.seesNumber()) {
                stretch.hasTo = true;
                stretch.to = cursor.readNumber(PLACE_DIGITS);
            }
            if (cursor.passes(':') && cursor.seesNumber()) {
                stretch.step = cursor.readNumber(PLACE_DIGITS);
            }
            return stretch;
        }

        private void open(char sign, int depth) {
            if (cursor.look() == sign && depth >= NESTED_LIMIT) {
                cursor.refuse(cursor.at);
            }
            cursor.expect(sign);
        }

        private Test readAny(int depth) {
            Test any = new Test(Test.ANY);
            any.add(readAll(depth));
            for (int i = 0; i < TEXT_LIMIT && cursor.passes('|'); i++) {
                cursor.expect('|');
                any.add(readAll(depth));
            }
            return any;
        }

        private Test readAll(int depth) {
            Test all = new Test(Test.ALL);
            all.add(readTest(depth));
            for (int i = 0; i < TEXT_LIMIT && cursor.passes('&'); i++) {
                cursor.expect('&');
                all.add(readTest(depth));
            }
            return all;
        }

        private Test readTest(int depth) {
            if (cursor.look() == '!') {
                open('!', depth);
                Test not = new Test(Test.NOT);
                not.add(readTest(depth + 1));
                return not;
            }
            if (cursor.look() == '(') {
                open('(', depth);
                Test any = readAny(depth + 1);
                cursor.expect(')');
                return any;
            }
            return seesPath() ? readPathTest(depth) : readComparison(readThing(depth), depth);
        }

        private Test readPathTest(int depth) {
            int begin = cursor.at;
            Path read = readPath(depth);
            if (seesRelation()) {
                return readComparison(thingOfPath(read, begin), depth);
            }
            Test finds = new Test(Test.FINDS);
            finds.path = read;
            return finds;
        }

        private Test readComparison(Thing left, int depth) {
            Test compares = new Test(Test.COMPARES);
            compares.left = left;
            compares.relation = readRelation();
            compares.right = readThing(depth);
            return compares;
        }

        private boolean seesRelation() {
            char c = cursor.look();
            return c == '=' || c == '!' || c == '<' || c == '>';
        }

        private int readRelation() {
            if (cursor.passes('<')) {
                return cursor.passes('=') ? Test.LESS_OR_EQUAL : Test.LESS;
            }
            if (cursor.passes('>')) {
                return cursor.passes('=') ? Test.MORE_OR_EQUAL : Test.MORE;
            }
            boolean not = cursor.passes('!');
            if (!not) {
                cursor.expect('=');
            }
            cursor.expect('=');
            return not ? Test.UNEQUAL : Test.EQUAL;
        }

        private Thing readThing(int depth) {
            switch (cursor.look()) {
                case '@':
                case '$':
                    int begin = cursor.at;
                    return thingOfPath(readPath(depth), begin);
                case 'l':
                    return readLength(depth);
                case 'c':
                    return readCount(depth);
                default:
                    Thing written = new Thing(Thing.WRITTEN);
                    cursor.readPlain(written.value, '\'', '\'');
                    return written;
            }
        }

        private Thing thingOfPath(Path path, int begin) {
            if (!path.single) {
                cursor.refuse(begin);
            }
            Thing thing = new Thing(Thing.OF_PATH);
            thing.path = path;
            return thing;
        }

        private Thing readLength(int depth) {
            cursor.expectWord("length");
            open('(', depth);
            Thing length = new Thing(Thing.LENGTH);
            length.inner = readThing(depth + 1);
            cursor.expect(')');
            return length;
        }

        private Thing readCount(int depth) {
            cursor.expectWord("count");
            open('(', depth);
            if (!seesPath()) {
                cursor.refuse(cursor.at);
            }
            Thing count = new Thing(Thing.COUNT);
            count.path = readPath(depth + 1);
            cursor.expect(')');
            return count;
        }
    }

    /** Nodes that a segment has found. */
    private static final class Row {
        final int[] nodes = new int[FOUND_LIMIT];
        int count = 0;

        void clear() {
            count = 0;
        }

        void add(int node) {
            if (count >= FOUND_LIMIT) {
                throw new UnsupportedOperationException("a segment finds too many nodes");
            }
            nodes[count] = node;
            count++;
        }

        void addIfThere(int node) {
            if (node != NONE) {
                add(node);
            }
        }

        void addAll(Row other) {
            for (int i = 0; i < other.count; i++) {
                add(other.nodes[i]);
            }
        }
    }

    /** Finds what a query finds; depth is how many of ?, ! and ( are open, as it was for the reader. */
    private static final class Finder {
        // Two for each depth: a path in a condition leaves alone those of the paths round it.
        private final Row[] rows = new Row[2 * (NESTED_LIMIT + 1)];
        private Document searched = null;
        private int steps = 0;

        Finder() {
            for (int i = 0; i < rows.length; i++) {
                rows[i] = new Row();
            }
        }

        Row run(Document document, Path query) {
            searched = document;
            steps = 0;
            return follow(query, 0, 0);
        }

        private void refuseBeyondLimit(int depth) {
            if (depth > NESTED_LIMIT) {
                throw new UnsupportedOperationException("a condition is too deep");
            }
        }

        private Row follow(Path path, int lookedAt, int depth) {
            refuseBeyondLimit(depth);
            Row before = rows[2 * depth];
            Row behind = rows[2 * depth + 1];
            before.clear();
            before.add(path.fromRoot ? 0 : lookedAt);
            for (Segment segment = path.first; segment != null; segment = segment.next) {
                behind.clear();
                for (int i = 0; i < before.count; i++) {
                    goFrom(before.nodes[i], segment, behind, depth);
                }
                Row spare = before;
                before = behind;
                behind = spare;
            }
            return before;
        }

        private void goFrom(int node, Segment segment, Row to, int depth) {
            int end = segment.below ? searched.nodes[node].after : node + 1;
            steps += end - node;
            if (steps > STEP_LIMIT) {
                throw new UnsupportedOperationException("segments go from too many nodes");
            }
            for (int from = node; from < end; from++) {
                for (Selector selector = segment.first; selector != null; selector = selector.next) {
                    select(from, selector, to, depth);
                }
            }
        }

        private void select(int node, Selector selector, Row to, int depth) {
            switch (selector.kind) {
                case Selector.NAMED:
                    to.addIfThere(searched.childNamed(node, selector.name));
                    break;
                case Selector.ALL:
                    selectAll(node, to);
                    break;
                case Selector.AT_PLACE:
                    selectPlace(node, selector.from, to);
                    break;
                case Selector.STRETCH:
                    selectStretch(node, selector, to);
                    break;
                default:
                    selectHolding(node, selector.condition, to, depth + 1);
                    break;
            }
        }

        private void selectAll(int node, Row to) {
            int length = searched.nodes[node].childCount();
            for (int i = 0; i < length; i++) {
                to.add(searched.children[node][i]);
            }
        }

        private void selectPlace(int node, int place, Row to) {
            Value value = searched.nodes[node];
            if (value.kind == ARRAY) {
                to.addIfThere(searched.childAt(node, fromBegin(place, value.size)));
            }
        }

        private static int fromBegin(int place, int length) {
            return place < 0 ? length + place : place;
        }

        private void selectStretch(int node, Selector stretch, Row to) {
            if (searched.nodes[node].kind != ARRAY || stretch.step == 0) {
                return;
            }
            int length = searched.nodes[node].size;
            boolean upwards = stretch.step > 0;
            int first = upwards ? firstUpwards(stretch, length) : firstDownwards(stretch, length);
            int end = upwards ? endUpwards(stretch, length) : endDownwards(stretch, length);
            // Each step meets another place: no more of them than the array's length are inside it.
            for (int i = 0; i < length; i++) {
                int place = first + i * stretch.step;
                if (upwards ? place < end : place > end) {
                    to.addIfThere(searched.childAt(node, place));
                }
            }
        }

        private static int firstUpwards(Selector stretch, int length) {
            return stretch.hasFrom ? Math.max(0, fromBegin(stretch.from, length)) : 0;
        }

        private static int endUpwards(Selector stretch, int length) {
            return stretch.hasTo ? fromBegin(stretch.to, length) : length;
        }

        private static int firstDownwards(Selector stretch, int length) {
            int place = stretch.hasFrom ? fromBegin(stretch.from, length) : length - 1;
            if (place < length || stretch.step >= 0) {
                return place;
            }
            // It isn't just moved to the last place: where it begins settles which places the steps meet.
            int steps = (place - length) / -stretch.step + 1;
            return place + steps * stretch.step;
        }

        private static int endDownwards(Selector stretch, int length) {
            return stretch.hasTo ? fromBegin(stretch.to, length) : -1;
        }

        private void selectHolding(int node, Test condition, Row to, int depth) {
            int length = searched.nodes[node].childCount();
            for (int i = 0; i < length; i++) {
                int child = searched.children[node][i];
                if (anyHolds(condition, child, depth)) {
                    to.add(child);
                }
            }
        }

        // No part is passed over once the answer is known: each one's steps count towards the limit.
        private boolean anyHolds(Test any, int lookedAt, int depth) {
            boolean holds = false;
            for (Test all = any.first; all != null; all = all.next) {
                holds |= allHold(all, lookedAt, depth);
            }
            return holds;
        }

        private boolean allHold(Test all, int lookedAt, int depth) {
            boolean hold = true;
            for (Test test = all.first; test != null; test = test.next) {
                hold &= holds(test, lookedAt, depth);
            }
            return hold;
        }

        private boolean holds(Test test, int lookedAt, int depth) {
            refuseBeyondLimit(depth);
            switch (test.kind) {
                case Test.ANY:
                    return anyHolds(test, lookedAt, depth + 1);
                case Test.NOT:
                    return !holds(test.first, lookedAt, depth + 1);
                case Test.FINDS:
                    return follow(test.path, lookedAt, depth).count > 0;
                default:
                    Value left = valueOf(test.left, lookedAt, depth);
                    Value right = valueOf(test.right, lookedAt, depth);
                    return compare(left, test.relation, right);
            }
        }

        /** Answers null for NOTHING. */
        private Value valueOf(Thing thing, int lookedAt, int depth) {
            refuseBeyondLimit(depth);
            switch (thing.kind) {
                case Thing.OF_PATH:
                    Row met = follow(thing.path, lookedAt, depth);
                    return met.count > 0 ? searched.nodes[met.nodes[0]] : null;
                case Thing.LENGTH:
                    return lengthOf(valueOf(thing.inner, lookedAt, depth + 1), thing.value);
                case Thing.COUNT:
                    thing.value.become(NUMBER, follow(thing.path, lookedAt, depth + 1).count, "");
                    return thing.value;
                default:
                    return thing.value;
            }
        }

        private static Value lengthOf(Value value, Value answer) {
            if (value == null || value.kind < STRING) {
                return null;
            }
            answer.become(NUMBER, value.size, "");
            return answer;
        }

        private boolean compare(Value left, int relation, Value right) {
            switch (relation) {
                case Test.EQUAL:
                    return equal(left, right, 0);
                case Test.UNEQUAL:
                    return !equal(left, right, 0);
                case Test.LESS:
                    return less(left, right);
                case Test.LESS_OR_EQUAL:
                    return less(left, right) || equal(left, right, 0);
                case Test.MORE:
                    return less(right, left);
                default:
                    return less(right, left) || equal(left, right, 0);
            }
        }

        private boolean equal(Value left, Value right, int depth) {
            if (left == right) {
                return true;
            }
            if (left == null || right == null || left.kind != right.kind || depth > HOLDER_LIMIT) {
                return false;
            }
            switch (left.kind) {
                case NUMBER:
                    return left.size == right.size;
                case STRING:
                    return left.string.equals(right.string);
                case ARRAY:
                case OBJECT:
                    return left.size == right.size && equalChildren(left, right, depth);
                default:
                    return true;
            }
        }

        private boolean equalChildren(Value left, Value right, int depth) {
            for (int i = 0; i < left.size; i++) {
                Value child = searched.nodes[searched.children[left.number][i]];
                int other = left.kind == ARRAY
                        ? searched.childAt(right.number, i)
                        : searched.childNamed(right.number, child.name);
                if (other == NONE || !equal(child, searched.nodes[other], depth + 1)) {
                    return false;
                }
            }
            return true;
        }

        private static boolean less(Value left, Value right) {
            if (left == null || right == null || left.kind != right.kind) {
                return false;
            }
            if (left.kind == NUMBER) {
                return left.size < right.size;
            }
            return left.kind == STRING && lessString(left.string, right.string);
        }

        private static boolean lessString(String left, String right) {
            int shared = Math.min(left.length(), right.length());
            for (int i = 0; i < shared; i++) {
                if (left.charAt(i) != right.charAt(i)) {
                    return left.charAt(i) < right.charAt(i);
                }
            }
            return left.length() < right.length();
        }
    }
}
