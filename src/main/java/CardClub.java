/**
 * A club of cards to strangers: who sends a card gets one from somebody else.
 *
 * <p>All rows are made once, as the object is made, and used again by each call: a call makes no objects.
 */
public final class CardClub {
    public static final int NONE = -1;

    private static final int DAYS = 2000;
    private static final int LANDS = 16;
    private static final int TONGUE_SETS = 1 << 16;
    private static final int FAMILIES = 20;
    private static final int MEMBERS = 40;
    private static final int CARDS = 300;
    private static final int TELLINGS = 600;
    private static final int OFFERS = 20;
    private static final int KINDS = 32;
    private static final int LISTED = 8;
    private static final int TAPE_BYTES = 200;
    private static final int SHORT_TEXT = 100;
    private static final int FAR_UNTOLD = 10;
    private static final int MOST_FAR = 99;
    private static final int MOST_GRAMS = 500;

    private static final int MAY_NOT_ASK = -2;
    private static final int NOBODY_MAY_GET = -3;
    private static final int NO_PRICE = -2;
    private static final int DRAWER_TOO_POOR = -3;
    private static final int OWED_OF_NOBODY = -1000;

    private static final int UNDER_WAY = 0;
    private static final int ARRIVED = 1;
    private static final int LOST = 2;
    private static final int LATE = 3;
    private static final int CANCELLED = 4;

    private int now = 0;
    private final int[] farRow = new int[LANDS * LANDS];
    private final Tape tape = new Tape();
    private final Members people = new Members();
    private final Wishes wishes = new Wishes(people, farRow, tape);
    private final RuleBook ruleBook = new RuleBook();
    private final Cards post = new Cards(people);
    private final Tally tally = new Tally();
    private final int[] listed = new int[LISTED];
    private int listSize = 0;
    private final int[] askers = new int[LISTED];
    private final long[] reached = new long[LISTED];
    private final Matching matching = new Matching();
    private final Offers swaps = new Offers();
    private final RingSearch ringSearch = new RingSearch(swaps, people);
    private final Tariffs tariffs = new Tariffs();
    private final Drawer drawer = new Drawer();

    public CardClub() {
        for (int a = 0; a < LANDS; a++) {
            for (int b = 0; b < LANDS; b++) {
                farRow[a * LANDS + b] = a == b ? 0 : FAR_UNTOLD;
            }
        }
    }

    // ---- days, lands, members ----

    public boolean clock(int day) {
        if (!isDay(day) || day < now) {
            return false;
        }
        now = day;
        return true;
    }

    public int far(int a, int b, int n) {
        if (!isLand(a) || !isLand(b) || a == b || !within(n, 0, MOST_FAR)) {
            return NONE;
        }
        int was = farRow[a * LANDS + b];
        farRow[a * LANDS + b] = n;
        farRow[b * LANDS + a] = n;
        return was;
    }

    public int member(int land, int tongues, int family) {
        boolean asTold = isLand(land) && within(tongues, 0, TONGUE_SETS - 1)
                && within(family, NONE, FAMILIES - 1);
        return asTold ? people.add(land, tongues, family, now) : NONE;
    }

    public int leave(int member) {
        if (!people.isThere(member)) {
            return NONE;
        }
        people.goAway(member);
        int cancelled = cancelCardsTo(member);
        for (int o = 0; o < swaps.size(); o++) {
            if (swaps.memberOf(o) == member) {
                cancelled += withdraw(o);
            }
        }
        return cancelled;
    }

    private int cancelCardsTo(int member) {
        int cancelled = 0;
        for (int c = 0; c < post.size(); c++) {
            if (post.toOf(c) == member && post.stateNow(c, now) == UNDER_WAY) {
                post.cancel(c, now);
                people.addCredit(post.fromOf(c));
                cancelled++;
            }
        }
        return cancelled;
    }

    /** Takes an offer away, out of its ring if it is of one: how many cards that cancels (0 or 1). */
    private int withdraw(int offer) {
        int card = swaps.isInRing(offer) ? swaps.cardOf(offer) : NONE;
        swaps.takeAway(offer);
        if (!post.has(card) || post.stateNow(card, now) != UNDER_WAY) {
            return 0;
        }
        post.cancel(card, now);
        if (people.isThere(post.toOf(card))) {
            people.addCredit(post.toOf(card));
        }
        return 1;
    }

    // ---- the tape and the texts on it ----

    public int feed(int a, int b, int c, int d, int e) {
        if (!tape.hasRoom(20)) {
            return NONE;
        }
        tape.append(a);
        tape.append(b);
        tape.append(c);
        tape.append(d);
        tape.append(e);
        return tape.length();
    }

    public int end(int n) {
        if (!within(n, 0, tape.length())) {
            return NONE;
        }
        tape.cut(n);
        return n;
    }

    public int wish(int member) {
        if (!people.has(member) || tape.length() > SHORT_TEXT) {
            return NONE;
        }
        int answer = wishes.read(member);
        tape.cut(0);
        return answer;
    }

    public int meets(int a, int b) {
        if (!people.has(a) || !people.has(b) || a == b) {
            return NONE;
        }
        return wishes.isMet(a, b, now) ? 1 : 0;
    }

    public int rules() {
        if (tape.length() > SHORT_TEXT) {
            return NONE;
        }
        int answer = ruleBook.read(tape);
        tape.cut(0);
        return answer;
    }

    // ---- who asks and who gets ----

    public int ask(int member) {
        if (!people.has(member) || !post.hasRoom(1)) {
            return NONE;
        }
        tally.take(post, now);
        if (!mayAsk(member)) {
            return MAY_NOT_ASK;
        }
        int receiver = firstReceiver(member);
        return receiver == NONE ? NOBODY_MAY_GET : send(member, receiver, NONE);
    }

    public int may(int a, int b) {
        if (!people.has(a) || !people.has(b)) {
            return NONE;
        }
        tally.take(post, now);
        return mayGet(a, b, post.reachedBy(a)) ? 1 : 0;
    }

    public int list(int member) {
        if (!people.has(member) || listSize >= LISTED) {
            return NONE;
        }
        for (int i = 0; i < listSize; i++) {
            if (listed[i] == member) {
                return NONE;
            }
        }
        listed[listSize++] = member;
        return listSize;
    }

    public int give() {
        if (!post.hasRoom(listSize)) {
            return NONE;
        }
        tally.take(post, now);
        int asking = gatherAskers();
        listSize = 0;
        matching.begin(asking);
        for (int b = 0; b < people.size(); b++) {
            for (int i = 0; i < asking; i++) {
                if (mayGet(askers[i], b, reached[i])) {
                    matching.allow(i, unhappy(askers[i], b), owed(b));
                }
            }
            matching.tryReceiver(b);
        }
        matching.finish();
        int sent = 0;
        for (int i = 0; i < asking; i++) {
            int receiver = matching.receiverOf(i);
            if (receiver != NONE) {
                send(askers[i], receiver, NONE);
                sent++;
            }
        }
        return sent;
    }

    /** Puts those of the list that may ask into the row of askers, in the order of the list: how many. */
    private int gatherAskers() {
        int asking = 0;
        for (int i = 0; i < listSize; i++) {
            if (mayAsk(listed[i])) {
                askers[asking] = listed[i];
                reached[asking] = post.reachedBy(listed[i]);
                asking++;
            }
        }
        return asking;
    }

    // What follows reads the tally: it must have been taken in the same call.

    private int owed(int member) {
        return tally.givenBy(member) + people.creditOf(member) - tally.gotBy(member) - tally.comingTo(member);
    }

    private boolean mayAsk(int member) {
        int more = ruleBook.more();
        int earned = more <= 0 ? 0 : tally.givenBy(member) / more;
        return people.isThere(member) && tally.outOf(member) < ruleBook.under() + earned;
    }

    /** Whether b may get from a; bit m of alreadyReached says that a's family has sent to m before. */
    private boolean mayGet(int a, int b, long alreadyReached) {
        return people.isThere(b) && !people.areKin(a, b)
                && ((alreadyReached >> b) & 1L) == 0
                && owed(b) + ruleBook.slack() > 0
                && unhappy(a, b) <= ruleBook.strict();
    }

    private int unhappy(int a, int b) {
        return (wishes.isMet(a, b, now) ? 0 : 1) + (wishes.isMet(b, a, now) ? 0 : 1);
    }

    private int firstReceiver(int asker) {
        long alreadyReached = post.reachedBy(asker);
        int first = NONE;
        for (int b = 0; b < people.size(); b++) {
            if (mayGet(asker, b, alreadyReached) && (first == NONE || isAhead(asker, b, first))) {
                first = b;
            }
        }
        return first;
    }

    private boolean isAhead(int asker, int b, int other) {
        if (owed(b) != owed(other)) {
            return owed(b) > owed(other);
        }
        int unhappyNow = unhappy(asker, b);
        int unhappyThen = unhappy(asker, other);
        if (unhappyNow != unhappyThen) {
            return unhappyNow < unhappyThen;
        }
        return tally.lastSentTo(b) < tally.lastSentTo(other);
    }

    private int send(int from, int to, int ring) {
        int bound = post.boundBetween(people.landOf(from), people.landOf(to), ruleBook.lost());
        return post.add(from, to, now, bound, ring);
    }

    // ---- cards and what is known of them ----

    public boolean arrive(int card, int day) {
        return post.tellArrival(card, day, now);
    }

    public boolean back(int card) {
        return post.takeBack(card, now);
    }

    public int card(int k, int what) {
        switch (what) {
            case 0: return post.fromOf(k);
            case 1: return post.toOf(k);
            case 2: return post.sentOnOf(k);
            case 3: return post.boundOf(k);
            case 4: return post.arrivedOnOf(k);
            case 5: return post.ringOf(k);
            case 6: return post.cancelledOnOf(k);
            default: return NONE;
        }
    }

    public int state(int card, int day, int known) {
        if (!post.has(card) || !isDay(day) || !isDay(known)) {
            return NONE;
        }
        return post.stateAsKnown(card, day, known);
    }

    public int about(int member, int what) {
        if (!people.has(member)) {
            return what == 5 ? OWED_OF_NOBODY : NONE;
        }
        tally.take(post, now);
        switch (what) {
            case 0: return tally.givenBy(member);
            case 1: return tally.gotBy(member);
            case 2: return tally.comingTo(member);
            case 3: return tally.outOf(member);
            case 4: return people.creditOf(member);
            case 5: return owed(member);
            case 6: return mayAsk(member) ? 1 : 0;
            case 7: return people.landOf(member);
            case 8: return people.isThere(member) ? 1 : 0;
            case 9: return people.cameOnOf(member);
            case 10: return tally.lostOf(member);
            default: return NONE;
        }
    }

    public int album(int member) {
        return people.has(member) ? post.landsArrivedTo(member, now) : NONE;
    }

    public int span(int from, int to, int what) {
        if (!isLand(from) || !isLand(to) || !within(what, 0, 2)) {
            return NONE;
        }
        post.measure(from, to);
        if (what == 2) {
            return post.measuredArrivals();
        }
        return what == 0 ? post.measuredLeast() : post.measuredGreatest();
    }

    // ---- offers and rings ----

    public int offer(int member, int kind, int wants) {
        if (!people.isThere(member) || !within(kind, 0, KINDS - 1)) {
            return NONE;
        }
        return swaps.add(member, kind, wants);
    }

    public boolean away(int offer) {
        if (!swaps.isOpen(offer)) {
            return false;
        }
        swaps.takeAway(offer);
        return true;
    }

    public int rings() {
        return ringSearch.find();
    }

    public int ring(int k, int i) {
        return ringSearch.offerAt(k, i);
    }

    public int close(int k) {
        int length = ringSearch.lengthOf(k);
        if (length == 0 || !post.hasRoom(length)) {
            return NONE;
        }
        for (int i = 0; i < length; i++) {
            if (!swaps.isOpen(ringSearch.offerAt(k, i))) {
                return NONE;
            }
        }
        int closed = swaps.addRing();
        for (int i = 0; i < length; i++) {
            int giving = ringSearch.offerAt(k, i);
            int getting = ringSearch.offerAt(k, i + 1 < length ? i + 1 : 0);
            int card = send(swaps.memberOf(giving), swaps.memberOf(getting), closed);
            swaps.joinRing(giving, closed, card);
        }
        return closed;
    }

    public int drop(int ring, int member) {
        int offer = swaps.offerInRing(ring, member);
        return offer == NONE ? NONE : withdraw(offer);
    }

    public int offers(int k, int what) {
        switch (what) {
            case 0: return swaps.memberOf(k);
            case 1: return swaps.kindOf(k);
            case 2: return swaps.has(k) ? swaps.wantsOf(k) : NONE;
            case 3: return swaps.conditionOf(k);
            case 4: return swaps.ringOf(k);
            default: return NONE;
        }
    }

    // ---- rates and stamps ----

    public int rates(int day) {
        if (!isDay(day) || !tariffs.hasRoom()) {
            return NONE;
        }
        int answer = tariffs.read(tape, day);
        tape.cut(0);
        return answer;
    }

    public int price(int from, int to, int grams, int day) {
        if (!isLand(from) || !isLand(to) || !within(grams, 1, MOST_GRAMS) || !isDay(day)) {
            return NONE;
        }
        int coins = tariffs.coinsFor(zone(from, to), grams, day);
        return coins == NONE ? NO_PRICE : coins;
    }

    public boolean stamps(int kind, int value, int many) {
        return drawer.put(kind, value, many);
    }

    public int pay(int card, int grams) {
        if (!post.has(card) || !within(grams, 1, MOST_GRAMS)) {
            return NONE;
        }
        int from = people.landOf(post.fromOf(card));
        int to = people.landOf(post.toOf(card));
        int coins = tariffs.coinsFor(zone(from, to), grams, now);
        if (coins == NONE) {
            return NO_PRICE;
        }
        int sum = drawer.payAtLeast(coins);
        return sum == NONE ? DRAWER_TOO_POOR : sum;
    }

    public int paid(int kind) {
        return drawer.wentOf(kind);
    }

    private int zone(int from, int to) {
        if (from == to || !isLand(from) || !isLand(to)) {
            return 0;
        }
        int distance = farRow[from * LANDS + to];
        if (distance < 20) {
            return 1;
        }
        return distance < 50 ? 2 : 3;
    }

    // ---- counts ----

    public int count(int what) {
        switch (what) {
            case 0: return now;
            case 1: return people.size();
            case 2: return people.howManyThere();
            case 3: return post.size();
            case 4: return post.tellings();
            case 5: return swaps.size();
            case 6: return swaps.ringsClosed();
            case 7: return tariffs.size();
            case 8: return tape.length();
            case 9: return listSize;
            case 10: return ruleBook.under();
            case 11: return ruleBook.more();
            case 12: return ruleBook.slack();
            case 13: return ruleBook.lost();
            case 14: return ruleBook.strict();
            default: return countOfDrawer(what);
        }
    }

    private int countOfDrawer(int what) {
        if (within(what, 20, 27)) {
            return drawer.manyOf(what - 20);
        }
        return within(what, 30, 37) ? drawer.valueOf(what - 30) : NONE;
    }

    // ---- tests of numbers ----

    private static boolean within(int n, int least, int most) {
        return n >= least && n <= most;
    }

    private static boolean isDay(int n) {
        return within(n, 0, DAYS - 1);
    }

    private static boolean isLand(int n) {
        return within(n, 0, LANDS - 1);
    }

    private static int entry(int[] row, int size, int k) {
        return k >= 0 && k < size && k < row.length ? row[k] : NONE;
    }

    /**
     * The bytes fed so far, and the place up to which they have been read as a text: always one where a
     * thing that is no blank stands, or the end.
     */
    private static final class Tape {
        private static final int MOST_DIGITS = 3;
        private static final int CANNOT_STAND = 0;
        private static final int NUMBER_NOT_AS_TOLD = 1;

        private final int[] bytes = new int[TAPE_BYTES];
        private int length = 0;
        private int at = 0;
        private int fault = 0;

        int length() {
            return length;
        }

        boolean hasRoom(int more) {
            return more <= TAPE_BYTES - length;
        }

        void append(int number) {
            for (int shift = 24; shift >= 0; shift -= 8) {
                if (length < bytes.length) {
                    bytes[length++] = (number >> shift) & 255;
                }
            }
        }

        void cut(int n) {
            if (n >= 0 && n <= length) {
                length = n;
            }
        }

        void startReading() {
            at = 0;
            fault = 0;
            skipBlanks();
        }

        boolean isFaulty() {
            return fault != 0;
        }

        int answerOfFault() {
            return -2 - fault;
        }

        /** Notes a fault, unless there was one already: the first along the text is the one told. */
        void noteFault(int atPlace, int kind) {
            if (fault == 0) {
                fault = 1 + 8 * atPlace + kind;
            }
        }

        void noteCannotStand() {
            noteFault(at, CANNOT_STAND);
        }

        int place() {
            return at;
        }

        boolean isAtEnd() {
            return at >= length;
        }

        boolean takesWord(String word) {
            int behind = at + word.length();
            if (isFaulty() || behind > length) {
                return false;
            }
            for (int i = 0; i < word.length(); i++) {
                if (bytes[at + i] != word.charAt(i)) {
                    return false;
                }
            }
            if (behind < length && bytes[behind] >= 'a' && bytes[behind] <= 'z') {
                return false;
            }
            at = behind;
            skipBlanks();
            return true;
        }

        boolean takesSign(char sign) {
            if (isFaulty() || at >= length || bytes[at] != sign) {
                return false;
            }
            at++;
            skipBlanks();
            return true;
        }

        int takeNumber(int least, int most) {
            int start = at;
            int value = 0;
            for (; at < length && bytes[at] >= '0' && bytes[at] <= '9'; at++) {
                if (at - start < MOST_DIGITS) {
                    value = value * 10 + bytes[at] - '0';
                }
            }
            if (at == start) {
                noteFault(start, CANNOT_STAND);
            } else if (at - start > MOST_DIGITS || !within(value, least, most)) {
                noteFault(start, NUMBER_NOT_AS_TOLD);
            }
            skipBlanks();
            return value;
        }

        private void skipBlanks() {
            for (; at < length && bytes[at] == ' '; at++) { }
        }
    }

    /** The members, by number. */
    private static final class Members {
        private final int[] land = new int[MEMBERS];
        private final int[] tongues = new int[MEMBERS];
        private final int[] family = new int[MEMBERS];
        private final int[] cameOn = new int[MEMBERS];
        private final int[] credit = new int[MEMBERS];
        private final boolean[] there = new boolean[MEMBERS];
        private int size = 0;

        int size() {
            return size;
        }

        boolean has(int m) {
            return m >= 0 && m < size && m < MEMBERS;
        }

        boolean isThere(int m) {
            return has(m) && there[m];
        }

        int howManyThere() {
            int many = 0;
            for (int m = 0; m < size; m++) {
                if (isThere(m)) {
                    many++;
                }
            }
            return many;
        }

        int add(int ofLand, int withTongues, int ofFamily, int day) {
            if (size >= MEMBERS) {
                return NONE;
            }
            land[size] = ofLand;
            tongues[size] = withTongues;
            family[size] = ofFamily;
            cameOn[size] = day;
            there[size] = true;
            return size++;
        }

        void goAway(int m) {
            if (has(m)) {
                there[m] = false;
            }
        }

        void addCredit(int m) {
            if (has(m)) {
                credit[m]++;
            }
        }

        int landOf(int m) {
            return entry(land, size, m);
        }

        int tonguesOf(int m) {
            return has(m) ? tongues[m] : 0;
        }

        int cameOnOf(int m) {
            return entry(cameOn, size, m);
        }

        int creditOf(int m) {
            return has(m) ? credit[m] : 0;
        }

        /** Whether they are one and the same, or of one family. */
        boolean areKin(int a, int b) {
            return a == b || (has(a) && has(b) && family[a] != NONE && family[a] == family[b]);
        }
    }

    /**
     * The wishes: each is kept as steps in the order in which they are worked out (both sides of an
     * "and", then the "and"), so that to ask whether it is met needs neither recursion nor objects.
     */
    private static final class Wishes {
        private static final int MOST_ATOMS = 12;
        private static final int MOST_DEPTH = 10;
        private static final int THIRTEENTH_ATOM = 2;
        private static final int TOO_DEEP = 3;
        // Twelve atoms, eleven joints and as many "not" as 100 bytes still hold come to less than 40.
        private static final int MOST_STEPS = 40;

        private static final int OF_LAND = 0;
        private static final int WITH_TONGUE = 1;
        private static final int SHARED = 2;
        private static final int FAR = 3;
        private static final int NEAR = 4;
        private static final int OLD = 5;
        private static final int ANY = 6;
        private static final int NOT = 7;
        private static final int AND = 8;
        private static final int OR = 9;
        // A step is its kind times this, and the number told with it.
        private static final int PER_KIND = 1000;

        private final Members people;
        private final int[] farRow;
        private final Tape tape;
        private final int[][] steps = new int[MEMBERS][MOST_STEPS];
        private final int[] size = new int[MEMBERS];
        private final int[] draft = new int[MOST_STEPS];
        private int draftSize = 0;
        private int atoms = 0;

        Wishes(Members people, int[] farRow, Tape tape) {
            this.people = people;
            this.farRow = farRow;
            this.tape = tape;
        }

        /** Reads the tape as the wish of a member: the answer of the call. */
        int read(int member) {
            draftSize = 0;
            atoms = 0;
            tape.startReading();
            if (!tape.isAtEnd()) {
                readEither(0);
                if (!tape.isAtEnd()) {
                    tape.noteCannotStand();
                }
            }
            if (tape.isFaulty()) {
                return tape.answerOfFault();
            }
            keepDraft(member);
            return atoms;
        }

        private void keepDraft(int member) {
            if (!people.has(member)) {
                return;
            }
            for (int i = 0; i < draftSize; i++) {
                steps[member][i] = draft[i];
            }
            size[member] = draftSize;
        }

        // depth: how many "(" and "not" the place stands within; none is read past MOST_DEPTH.

        private void readEither(int depth) {
            readBoth(depth);
            for (int i = 0; i < SHORT_TEXT && tape.takesWord("or"); i++) {
                readBoth(depth);
                addStep(OR, 0);
            }
        }

        private void readBoth(int depth) {
            readOne(depth);
            for (int i = 0; i < SHORT_TEXT && tape.takesWord("and"); i++) {
                readOne(depth);
                addStep(AND, 0);
            }
        }

        private void readOne(int depth) {
            int place = tape.place();
            boolean isNot = tape.takesWord("not");
            boolean isBracket = !isNot && tape.takesSign('(');
            if ((isNot || isBracket) && depth >= MOST_DEPTH) {
                tape.noteFault(place, TOO_DEEP);
            } else if (isNot) {
                readOne(depth + 1);
                addStep(NOT, 0);
            } else if (isBracket) {
                readEither(depth + 1);
                if (!tape.takesSign(')')) {
                    tape.noteCannotStand();
                }
            } else {
                readAtom(place);
            }
        }

        private void readAtom(int place) {
            int kind = takeAtomWord();
            if (kind == NONE) {
                tape.noteCannotStand();
                return;
            }
            if (atoms >= MOST_ATOMS) {
                tape.noteFault(place, THIRTEENTH_ATOM);
                return;
            }
            atoms++;
            int most = greatestNumber(kind);
            addStep(kind, most == NONE ? 0 : tape.takeNumber(0, most));
        }

        private int takeAtomWord() {
            if (tape.takesWord("land")) {
                return OF_LAND;
            }
            if (tape.takesWord("tongue")) {
                return WITH_TONGUE;
            }
            if (tape.takesWord("shared")) {
                return SHARED;
            }
            if (tape.takesWord("far")) {
                return FAR;
            }
            if (tape.takesWord("near")) {
                return NEAR;
            }
            if (tape.takesWord("old")) {
                return OLD;
            }
            return tape.takesWord("any") ? ANY : NONE;
        }

        private static int greatestNumber(int kind) {
            switch (kind) {
                case OF_LAND:
                case WITH_TONGUE: return 15;
                case FAR:
                case NEAR: return 99;
                case OLD: return 999;
                default: return NONE;
            }
        }

        private void addStep(int kind, int number) {
            if (draftSize < draft.length) {
                draft[draftSize++] = kind * PER_KIND + number;
            }
        }

        /** Whether the owner has no wish, or the other one meets it. */
        boolean isMet(int owner, int other, int now) {
            if (!people.has(owner) || !people.has(other) || size[owner] == 0) {
                return true;
            }
            // The answers that wait, a bit each, the latest one lowest: atoms are 12 at most.
            int waiting = 0;
            for (int i = 0; i < size[owner] && i < MOST_STEPS; i++) {
                int kind = steps[owner][i] / PER_KIND;
                int latest = waiting & 1;
                if (kind == NOT) {
                    waiting ^= 1;
                } else if (kind == AND) {
                    waiting = (waiting >> 1) & (latest | ~1);
                } else if (kind == OR) {
                    waiting = (waiting >> 1) | latest;
                } else {
                    boolean holds = holdsAtom(kind, steps[owner][i] % PER_KIND, owner, other, now);
                    waiting = (waiting << 1) | (holds ? 1 : 0);
                }
            }
            return (waiting & 1) == 1;
        }

        private boolean holdsAtom(int kind, int number, int owner, int other, int now) {
            switch (kind) {
                case OF_LAND: return people.landOf(other) == number;
                case WITH_TONGUE: return ((people.tonguesOf(other) >> number) & 1) == 1;
                case SHARED: return (people.tonguesOf(owner) & people.tonguesOf(other)) != 0;
                case FAR: return distance(owner, other) >= number;
                case NEAR: return distance(owner, other) <= number;
                case OLD: return now - people.cameOnOf(other) >= number;
                default: return true;
            }
        }

        private int distance(int a, int b) {
            return entry(farRow, farRow.length, people.landOf(a) * LANDS + people.landOf(b));
        }
    }

    /** The rules that hold. */
    private static final class RuleBook {
        private static final int WORDS = 5;
        private static final int TOLD_TWICE = 2;
        private static final int[] LEAST = {1, 0, 0, 1, 0};
        private static final int[] MOST = {20, 99, 20, 400, 2};
        private static final int[] WITHOUT = {5, 10, 3, 60, 2};

        private final int[] holding = new int[WORDS];
        private final int[] draft = new int[WORDS];
        private int toldWords = 0;

        RuleBook() {
            for (int w = 0; w < WORDS; w++) {
                holding[w] = WITHOUT[w];
            }
        }

        int under() {
            return holding[0];
        }

        int more() {
            return holding[1];
        }

        int slack() {
            return holding[2];
        }

        int lost() {
            return holding[3];
        }

        int strict() {
            return holding[4];
        }

        /** Reads the tape as the rules: the answer of the call. */
        int read(Tape tape) {
            for (int w = 0; w < WORDS; w++) {
                draft[w] = WITHOUT[w];
            }
            toldWords = 0;
            tape.startReading();
            int words = tape.isAtEnd() ? 0 : readWords(tape);
            if (tape.isFaulty()) {
                return tape.answerOfFault();
            }
            for (int w = 0; w < WORDS; w++) {
                holding[w] = draft[w];
            }
            return words;
        }

        private int readWords(Tape tape) {
            int words = 0;
            boolean more = true;
            // Behind the fifth word any other one is a fault, so the bound is never what ends it.
            while (more && words < SHORT_TEXT) {
                readWord(tape);
                words++;
                more = tape.takesSign(';');
            }
            if (!tape.isAtEnd()) {
                tape.noteCannotStand();
            }
            return words;
        }

        private void readWord(Tape tape) {
            int place = tape.place();
            int w = takeRuleWord(tape);
            if (w < 0 || w >= WORDS) {
                tape.noteCannotStand();
                return;
            }
            if (((toldWords >> w) & 1) == 1) {
                tape.noteFault(place, TOLD_TWICE);
                return;
            }
            toldWords |= 1 << w;
            draft[w] = tape.takeNumber(LEAST[w], MOST[w]);
        }

        private static int takeRuleWord(Tape tape) {
            if (tape.takesWord("under")) {
                return 0;
            }
            if (tape.takesWord("more")) {
                return 1;
            }
            if (tape.takesWord("slack")) {
                return 2;
            }
            if (tape.takesWord("lost")) {
                return 3;
            }
            return tape.takesWord("strict") ? 4 : NONE;
        }
    }

    /** The cards, by number, and what was told of their arrivals, in the order told. */
    private static final class Cards {
        private static final int ARRIVALS_THAT_COUNT = 10;

        private final Members people;
        private final int[] from = new int[CARDS];
        private final int[] to = new int[CARDS];
        private final int[] sentOn = new int[CARDS];
        private final int[] bound = new int[CARDS];
        private final int[] ring = new int[CARDS];
        private final int[] cancelledOn = new int[CARDS];
        private final int[] latestTelling = new int[CARDS];
        private int size = 0;
        private final int[] toldCard = new int[TELLINGS];
        // The day of the arrival; NONE: it was taken back.
        private final int[] toldDay = new int[TELLINGS];
        private final int[] knownFrom = new int[TELLINGS];
        private int tellings = 0;
        private int measuredArrivals = 0;
        private int measuredLeast = NONE;
        private int measuredGreatest = NONE;

        Cards(Members people) {
            this.people = people;
        }

        int size() {
            return size;
        }

        int tellings() {
            return tellings;
        }

        boolean has(int k) {
            return k >= 0 && k < size && k < CARDS;
        }

        boolean hasRoom(int more) {
            return more <= CARDS - size;
        }

        int add(int fromMember, int toMember, int day, int withBound, int ofRing) {
            if (size >= CARDS) {
                return NONE;
            }
            from[size] = fromMember;
            to[size] = toMember;
            sentOn[size] = day;
            bound[size] = withBound;
            ring[size] = ofRing;
            cancelledOn[size] = NONE;
            latestTelling[size] = NONE;
            return size++;
        }

        int fromOf(int k) {
            return entry(from, size, k);
        }

        int toOf(int k) {
            return entry(to, size, k);
        }

        int sentOnOf(int k) {
            return entry(sentOn, size, k);
        }

        int boundOf(int k) {
            return entry(bound, size, k);
        }

        int ringOf(int k) {
            return entry(ring, size, k);
        }

        int cancelledOnOf(int k) {
            return entry(cancelledOn, size, k);
        }

        /** The day of its arrival as told last; NONE: never told, or taken back since. */
        int arrivedOnOf(int k) {
            return entry(toldDay, tellings, entry(latestTelling, size, k));
        }

        void cancel(int k, int day) {
            if (has(k)) {
                cancelledOn[k] = day;
            }
        }

        boolean tellArrival(int k, int day, int now) {
            if (!has(k) || !within(day, sentOn[k], now)) {
                return false;
            }
            return tell(k, day, now);
        }

        boolean takeBack(int k, int now) {
            return arrivedOnOf(k) != NONE && tell(k, NONE, now);
        }

        private boolean tell(int k, int day, int now) {
            if (!has(k) || cancelledOn[k] != NONE || tellings >= TELLINGS) {
                return false;
            }
            toldCard[tellings] = k;
            toldDay[tellings] = day;
            knownFrom[tellings] = now;
            latestTelling[k] = tellings;
            tellings++;
            return true;
        }

        int stateNow(int k, int now) {
            return stateOn(k, now, now, arrivedOnOf(k));
        }

        int stateAsKnown(int k, int day, int known) {
            int arrivedOn = NONE;
            for (int t = 0; t < tellings; t++) {
                if (toldCard[t] == k && knownFrom[t] <= known) {
                    arrivedOn = toldDay[t];
                }
            }
            return stateOn(k, day, known, arrivedOn);
        }

        private int stateOn(int k, int day, int known, int arrivedOn) {
            if (!has(k) || day < sentOn[k]) {
                return NONE;
            }
            boolean isCancelled = cancelledOn[k] != NONE && cancelledOn[k] <= day && cancelledOn[k] <= known;
            if (isCancelled) {
                return CANCELLED;
            }
            if (arrivedOn != NONE && arrivedOn <= day) {
                return arrivedOn - sentOn[k] >= bound[k] ? LATE : ARRIVED;
            }
            return day - sentOn[k] >= bound[k] ? LOST : UNDER_WAY;
        }

        /** Bit m: a card went to member m from this one or from one of his family. */
        long reachedBy(int member) {
            long bits = 0;
            for (int c = 0; c < size; c++) {
                if (people.areKin(member, from[c])) {
                    bits |= 1L << to[c];
                }
            }
            return bits;
        }

        int landsArrivedTo(int member, int now) {
            int lands = 0;
            for (int c = 0; c < size; c++) {
                int state = stateNow(c, now);
                if (to[c] == member && (state == ARRIVED || state == LATE)) {
                    lands |= 1 << people.landOf(from[c]);
                }
            }
            return lands;
        }

        int boundBetween(int fromLand, int toLand, int lost) {
            measure(fromLand, toLand);
            return measuredArrivals == 0 ? lost : Math.min(lost, 2 * measuredGreatest + 7);
        }

        /** Measures the last ten arrivals from a land to a land. */
        void measure(int fromLand, int toLand) {
            measuredArrivals = 0;
            measuredLeast = NONE;
            measuredGreatest = NONE;
            for (int t = tellings - 1; t >= 0 && measuredArrivals < ARRIVALS_THAT_COUNT; t--) {
                int k = toldCard[t];
                boolean counts = has(k) && latestTelling[k] == t && toldDay[t] != NONE;
                if (counts && people.landOf(from[k]) == fromLand && people.landOf(to[k]) == toLand) {
                    addMeasured(toldDay[t] - sentOn[k]);
                }
            }
        }

        private void addMeasured(int days) {
            measuredLeast = measuredArrivals == 0 ? days : Math.min(measuredLeast, days);
            measuredGreatest = Math.max(measuredGreatest, days);
            measuredArrivals++;
        }

        int measuredArrivals() {
            return measuredArrivals;
        }

        int measuredLeast() {
            return measuredLeast;
        }

        int measuredGreatest() {
            return measuredGreatest;
        }
    }

    /** The counts of all members, taken in one walk along the cards. */
    private static final class Tally {
        private final int[] given = new int[MEMBERS];
        private final int[] got = new int[MEMBERS];
        private final int[] coming = new int[MEMBERS];
        private final int[] out = new int[MEMBERS];
        private final int[] lost = new int[MEMBERS];
        private final int[] lastSent = new int[MEMBERS];

        void take(Cards post, int now) {
            for (int m = 0; m < MEMBERS; m++) {
                given[m] = 0;
                got[m] = 0;
                coming[m] = 0;
                out[m] = 0;
                lost[m] = 0;
                lastSent[m] = NONE;
            }
            for (int c = 0; c < post.size(); c++) {
                add(post.fromOf(c), post.toOf(c), post.stateNow(c, now), post.sentOnOf(c));
            }
        }

        private void add(int from, int to, int state, int sentOn) {
            if (!within(from, 0, MEMBERS - 1) || !within(to, 0, MEMBERS - 1)) {
                return;
            }
            lastSent[to] = sentOn;
            if (state == ARRIVED || state == LATE) {
                given[from]++;
                got[to]++;
            } else if (state == UNDER_WAY) {
                out[from]++;
                coming[to]++;
            } else if (state == LOST) {
                lost[from]++;
            }
        }

        int givenBy(int m) {
            return entry(given, MEMBERS, m);
        }

        int gotBy(int m) {
            return entry(got, MEMBERS, m);
        }

        int comingTo(int m) {
            return entry(coming, MEMBERS, m);
        }

        int outOf(int m) {
            return entry(out, MEMBERS, m);
        }

        int lostOf(int m) {
            return entry(lost, MEMBERS, m);
        }

        /** The day on which a card was sent to him last; NONE, which is ahead of all days, if never. */
        int lastSentTo(int m) {
            return entry(lastSent, MEMBERS, m);
        }
    }

    /**
     * Finds to whom each of the askers sends, as all ask at once. For each set of askers (a mask) it
     * keeps the best way to serve just these with the receivers tried so far. What a way costs and where
     * it stands in the order of ways are sums over its pairs, so the best of a set can be made from the
     * bests of smaller ones.
     */
    private static final class Matching {
        private static final long IMPOSSIBLE = 1L << 62;
        // One pair more weighs more than any unhappiness, and that more than any sum of OWED.
        private static final long PER_PAIR = 1L << 40;
        private static final long PER_UNHAPPY = 1L << 20;
        // In the order of ways each asker has six bits for his receiver, the first asker the highest.
        private static final int BITS = 6;
        private static final int NOBODY = MEMBERS;

        private final long[] cost = new long[1 << LISTED];
        private final long[] order = new long[1 << LISTED];
        private final long[] pairCost = new long[LISTED];
        private int askers = 0;
        private long bestOrder = 0;

        void begin(int many) {
            askers = Math.min(Math.max(many, 0), LISTED);
            for (int set = 0; set < cost.length; set++) {
                cost[set] = IMPOSSIBLE;
            }
            cost[0] = 0;
            order[0] = 0;
            for (int i = 0; i < askers; i++) {
                order[0] += (long) NOBODY << shiftOf(i);
            }
            forbidAll();
        }

        private void forbidAll() {
            for (int i = 0; i < LISTED; i++) {
                pairCost[i] = IMPOSSIBLE;
            }
        }

        /** Says that the receiver tried next may get from an asker. */
        void allow(int asker, int unhappy, int owed) {
            if (within(asker, 0, LISTED - 1)) {
                pairCost[asker] = unhappy * PER_UNHAPPY - owed - PER_PAIR;
            }
        }

        void tryReceiver(int receiver) {
            // From the greatest set down: the smaller sets that it looks at don't have this receiver yet.
            for (int set = (1 << askers) - 1; set > 0; set--) {
                for (int i = 0; i < askers; i++) {
                    if (((set >> i) & 1) == 1 && pairCost[i] != IMPOSSIBLE) {
                        tryPair(set, i, receiver);
                    }
                }
            }
            forbidAll();
        }

        private void tryPair(int set, int asker, int receiver) {
            int without = set ^ (1 << asker);
            if (cost[without] == IMPOSSIBLE) {
                return;
            }
            long newCost = cost[without] + pairCost[asker];
            long newOrder = order[without] - ((long) (NOBODY - receiver) << shiftOf(asker));
            if (newCost < cost[set] || (newCost == cost[set] && newOrder < order[set])) {
                cost[set] = newCost;
                order[set] = newOrder;
            }
        }

        void finish() {
            int best = 0;
            for (int set = 1; set < 1 << askers; set++) {
                if (cost[set] < cost[best] || (cost[set] == cost[best] && order[set] < order[best])) {
                    best = set;
                }
            }
            bestOrder = order[best];
        }

        int receiverOf(int asker) {
            if (!within(asker, 0, askers - 1)) {
                return NONE;
            }
            int receiver = (int) (bestOrder >> shiftOf(asker)) & ((1 << BITS) - 1);
            return receiver == NOBODY ? NONE : receiver;
        }

        private static int shiftOf(int asker) {
            return BITS * (LISTED - 1 - asker);
        }
    }

    /** The offers, by number, and which ring as closed each is of. */
    private static final class Offers {
        private static final int OPEN = 0;
        private static final int IN_RING = 1;
        private static final int TAKEN_AWAY = 2;

        private final int[] member = new int[OFFERS];
        private final int[] kind = new int[OFFERS];
        private final int[] wants = new int[OFFERS];
        private final int[] condition = new int[OFFERS];
        private final int[] ring = new int[OFFERS];
        private final int[] card = new int[OFFERS];
        private int size = 0;
        private int ringsClosed = 0;

        int size() {
            return size;
        }

        int ringsClosed() {
            return ringsClosed;
        }

        boolean has(int k) {
            return k >= 0 && k < size && k < OFFERS;
        }

        int add(int ofMember, int ofKind, int wanted) {
            if (size >= OFFERS) {
                return NONE;
            }
            member[size] = ofMember;
            kind[size] = ofKind;
            wants[size] = wanted;
            condition[size] = OPEN;
            ring[size] = NONE;
            card[size] = NONE;
            return size++;
        }

        int addRing() {
            return ringsClosed++;
        }

        void joinRing(int k, int ofRing, int withCard) {
            if (has(k)) {
                condition[k] = IN_RING;
                ring[k] = ofRing;
                card[k] = withCard;
            }
        }

        /** What is taken away is of no ring any more. */
        void takeAway(int k) {
            if (has(k)) {
                condition[k] = TAKEN_AWAY;
                ring[k] = NONE;
                card[k] = NONE;
            }
        }

        boolean isOpen(int k) {
            return has(k) && condition[k] == OPEN;
        }

        boolean isInRing(int k) {
            return has(k) && condition[k] == IN_RING;
        }

        int offerInRing(int ofRing, int ofMember) {
            for (int k = 0; k < size; k++) {
                if (isInRing(k) && ring[k] == ofRing && member[k] == ofMember) {
                    return k;
                }
            }
            return NONE;
        }

        int memberOf(int k) {
            return entry(member, size, k);
        }

        int kindOf(int k) {
            return entry(kind, size, k);
        }

        int wantsOf(int k) {
            return has(k) ? wants[k] : 0;
        }

        int conditionOf(int k) {
            return entry(condition, size, k);
        }

        int ringOf(int k) {
            return entry(ring, size, k);
        }

        int cardOf(int k) {
            return entry(card, size, k);
        }
    }

    /**
     * Finds the rings among the first twelve open offers. Offers have seats here (0 for the first open
     * one), and sets of seats are masks. It marks the sets that a ring can be made of, works out what the
     * best rings within each set of seats come to, and then takes the first rings that come to as much.
     */
    private static final class RingSearch {
        private static final int SEATS = 12;
        private static final int SETS = 1 << SEATS;
        private static final int LONGEST = 5;
        private static final int SHORTEST = 2;
        private static final int MOST_RINGS = SEATS / SHORTEST;
        // An offer more weighs more than any number of rings fewer.
        private static final int PER_OFFER = 16;
        private static final int SETS_PER_WORD = 64;

        private final Offers swaps;
        private final Members people;
        private final int[] seated = new int[SEATS];
        private int seats = 0;
        // Bit j of these rows at i: seat j may stand behind seat i; they can't be of one ring.
        private final int[] follows = new int[SEATS];
        private final int[] apart = new int[SEATS];
        private final long[] ringSets = new long[SETS / SETS_PER_WORD];
        private final int[] best = new int[SETS];
        private int useful = 0;
        private final int[] path = new int[LONGEST];
        private final int[][] found = new int[MOST_RINGS][LONGEST];
        private final int[] foundLength = new int[MOST_RINGS];
        private int foundRings = 0;

        RingSearch(Offers swaps, Members people) {
            this.swaps = swaps;
            this.people = people;
        }

        int lengthOf(int k) {
            return k >= 0 && k < foundRings && k < MOST_RINGS ? foundLength[k] : 0;
        }

        int offerAt(int k, int i) {
            return i >= 0 && i < lengthOf(k) && i < LONGEST ? found[k][i] : NONE;
        }

        int find() {
            seatOpenOffers();
            linkSeats();
            markRingSets();
            weighSets();
            takeFirstRings();
            return foundRings;
        }

        private void seatOpenOffers() {
            seats = 0;
            for (int o = 0; o < swaps.size() && seats < SEATS; o++) {
                if (swaps.isOpen(o)) {
                    seated[seats++] = o;
                }
            }
        }

        private void linkSeats() {
            for (int i = 0; i < seats; i++) {
                follows[i] = 0;
                apart[i] = 0;
                for (int j = 0; j < seats; j++) {
                    if (people.areKin(swaps.memberOf(seated[i]), swaps.memberOf(seated[j]))) {
                        apart[i] |= 1 << j;
                    } else if (((swaps.wantsOf(seated[j]) >> swaps.kindOf(seated[i])) & 1) == 1) {
                        follows[i] |= 1 << j;
                    }
                }
            }
        }

        private boolean mayFollow(int seat, int next) {
            return ((follows[seat] >> next) & 1) == 1;
        }

        private void markRingSets() {
            for (int w = 0; w < ringSets.length; w++) {
                ringSets[w] = 0;
            }
            useful = 0;
            for (int first = 0; first < seats; first++) {
                markFrom(first, first, 1 << first, apart[first], 1);
            }
        }

        /** Marks the sets of all rings that begin with a path of so many seats, from first to last. */
        private void markFrom(int first, int last, int set, int barred, int length) {
            if (length >= SHORTEST && mayFollow(last, first)) {
                ringSets[wordOf(set)] |= 1L << (set % SETS_PER_WORD);
                useful |= set;
            }
            if (length >= LONGEST) {
                return;
            }
            for (int next = first + 1; next < seats; next++) {
                if (mayFollow(last, next) && ((barred >> next) & 1) == 0) {
                    markFrom(first, next, set | (1 << next), barred | apart[next], length + 1);
                }
            }
        }

        private static int wordOf(int set) {
            return (set & (SETS - 1)) / SETS_PER_WORD;
        }

        private boolean isRingSet(int set) {
            return ((ringSets[wordOf(set)] >> (set % SETS_PER_WORD)) & 1L) == 1;
        }

        /** Weighs each set of useful seats; seats that no ring can have are never looked at again. */
        private void weighSets() {
            best[0] = 0;
            int set = 0;
            for (int i = 1; i < SETS; i++) {
                // The next greater set within the useful seats; 0 behind the last one.
                set = (set - useful) & useful;
                if (set == 0) {
                    return;
                }
                best[set] = weigh(set);
            }
        }

        private int weigh(int set) {
            int first = set & -set;
            int others = set ^ first;
            int enough = mostWorth(Integer.bitCount(set));
            int most = best[others];
            for (int behind = others; behind > 0 && most < enough; behind = (behind - 1) & others) {
                if (isRingSet(first | behind)) {
                    most = Math.max(most, best[others ^ behind] + worth(1 + Integer.bitCount(behind)));
                }
            }
            return most;
        }

        private static int worth(int length) {
            return PER_OFFER * length - 1;
        }

        /** What so many seats come to if all are in rings, and the rings as few as can be. */
        private static int mostWorth(int manySeats) {
            return PER_OFFER * manySeats - (manySeats + LONGEST - 1) / LONGEST;
        }

        private void takeFirstRings() {
            foundRings = 0;
            int left = useful;
            for (int seat = 0; seat < seats; seat++) {
                if (((left >> seat) & 1) == 1) {
                    path[0] = seat;
                    int length = firstRing(seat, 1 << seat, apart[seat], 1, left);
                    left ^= length == 0 ? 1 << seat : keepRing(length);
                }
            }
        }

        /** The length of the first ring on from the path whose taking leaves the best possible; 0: none. */
        private int firstRing(int last, int set, int barred, int length, int left) {
            boolean isRing = length >= SHORTEST && mayFollow(last, path[0]);
            if (isRing && best[left ^ set] + worth(length) == best[left]) {
                return length;
            }
            if (length >= LONGEST) {
                return 0;
            }
            for (int next = path[0] + 1; next < seats; next++) {
                if ((((left & ~barred) >> next) & 1) == 1 && mayFollow(last, next)) {
                    path[length] = next;
                    int all = firstRing(next, set | (1 << next), barred | apart[next], length + 1, left);
                    if (all != 0) {
                        return all;
                    }
                }
            }
            return 0;
        }

        /** Keeps the ring that stands in the path: the set of its seats. */
        private int keepRing(int length) {
            int set = 0;
            for (int i = 0; i < length && i < LONGEST; i++) {
                set |= 1 << path[i];
                if (foundRings < MOST_RINGS) {
                    found[foundRings][i] = seated[path[i]];
                }
            }
            if (foundRings < MOST_RINGS) {
                foundLength[foundRings++] = length;
            }
            return set;
        }
    }

    /** The rates told, and the days from which they hold. */
    private static final class Tariffs {
        private static final int MOST = 10;
        private static final int CLAUSES = 12;
        private static final int MOST_COINS = 900;
        private static final int GREATEST_ZONE = 3;
        private static final int NUMBER_NOT_AS_TOLD = 1;
        private static final int THIRTEENTH_CLAUSE = 2;

        private final int[] fromDay = new int[MOST];
        private final int[] clauses = new int[MOST];
        private final int[][] zone = new int[MOST][CLAUSES];
        private final int[][] grams = new int[MOST][CLAUSES];
        private final int[][] coins = new int[MOST][CLAUSES];
        private int size = 0;

        int size() {
            return size;
        }

        boolean hasRoom() {
            return size < MOST;
        }

        /** Reads the tape as rates from a day on: the answer of the call. */
        int read(Tape tape, int day) {
            if (size >= MOST) {
                return NONE;
            }
            // The rows at size are nobody's until the text has proved to be without a fault.
            clauses[size] = 0;
            tape.startReading();
            boolean more = true;
            for (int i = 0; more && i <= CLAUSES; i++) {
                readClause(tape);
                more = tape.takesSign(';');
            }
            if (!tape.isAtEnd()) {
                tape.noteCannotStand();
            }
            if (tape.isFaulty()) {
                return tape.answerOfFault();
            }
            fromDay[size] = day;
            return clauses[size++];
        }

        private void readClause(Tape tape) {
            int place = tape.place();
            if (!tape.takesWord("zone")) {
                tape.noteCannotStand();
                return;
            }
            int c = clauses[size];
            if (c >= CLAUSES) {
                tape.noteFault(place, THIRTEENTH_CLAUSE);
                return;
            }
            zone[size][c] = tape.takeNumber(0, GREATEST_ZONE);
            int placeOfGrams = tape.place();
            grams[size][c] = tape.takeNumber(1, MOST_GRAMS);
            if (grams[size][c] <= lastGrams(zone[size][c])) {
                tape.noteFault(placeOfGrams, NUMBER_NOT_AS_TOLD);
            }
            coins[size][c] = tape.takeNumber(1, MOST_COINS);
            clauses[size]++;
        }

        /** The grams of the latest clause of a zone in the rates that are being read; 0: none yet. */
        private int lastGrams(int ofZone) {
            int last = 0;
            for (int c = 0; c < clauses[size]; c++) {
                if (zone[size][c] == ofZone) {
                    last = grams[size][c];
                }
            }
            return last;
        }

        int coinsFor(int ofZone, int atMostGrams, int day) {
            int r = holdingOn(day);
            if (r < 0 || r >= size) {
                return NONE;
            }
            // The grams of a zone rise: the first that is not below is the least.
            for (int c = 0; c < clauses[r] && c < CLAUSES; c++) {
                if (zone[r][c] == ofZone && grams[r][c] >= atMostGrams) {
                    return coins[r][c];
                }
            }
            return NONE;
        }

        private int holdingOn(int day) {
            int holding = NONE;
            for (int r = 0; r < size; r++) {
                if (fromDay[r] <= day && (holding == NONE || fromDay[r] >= fromDay[holding])) {
                    holding = r;
                }
            }
            return holding;
        }
    }

    /**
     * The drawer of stamps. A way to pay a sum is told as one number: its stamps times 2 to the 48 less
     * how many of each kind, six bits a kind, kind 0 the highest. So of two ways the lesser number is
     * the one with fewer stamps, then with the most of kind 0, and so on; and it is a sum over the stamps.
     */
    private static final class Drawer {
        private static final int STAMP_KINDS = 8;
        private static final int MOST_VALUE = 500;
        private static final int MOST_STAMPS = 50;
        private static final int BITS = 6;
        private static final int ALL_BITS = BITS * STAMP_KINDS;
        private static final long IMPOSSIBLE = 1L << 62;
        // More than the greatest price (900) and the dearest stamp (500), less one, come to.
        private static final int SUMS = 1400;

        private final int[] value = new int[STAMP_KINDS];
        private final int[] many = new int[STAMP_KINDS];
        private final int[] went = new int[STAMP_KINDS];
        private final long[] best = new long[SUMS];

        Drawer() {
            for (int k = 0; k < STAMP_KINDS; k++) {
                value[k] = NONE;
                went[k] = NONE;
            }
        }

        boolean put(int kind, int ofValue, int soMany) {
            boolean asTold = within(kind, 0, STAMP_KINDS - 1) && within(ofValue, 1, MOST_VALUE)
                    && within(soMany, 0, MOST_STAMPS);
            if (asTold) {
                value[kind] = ofValue;
                many[kind] = soMany;
            }
            return asTold;
        }

        int manyOf(int kind) {
            return entry(many, STAMP_KINDS, kind);
        }

        int valueOf(int kind) {
            return entry(value, STAMP_KINDS, kind);
        }

        int wentOf(int kind) {
            return entry(went, STAMP_KINDS, kind);
        }

        /** Pays a price from the drawer: what the stamps come to; NONE: there is not as much. */
        int payAtLeast(int coins) {
            // The least sum that pays has no stamp too many: it is less than the price and one stamp more.
            int last = Math.min(coins + dearestStamp() - 1, SUMS - 1);
            findBestWays(last);
            for (int sum = Math.max(coins, 0); sum <= last; sum++) {
                if (best[sum] != IMPOSSIBLE) {
                    takeOut(best[sum]);
                    return sum;
                }
            }
            return NONE;
        }

        private int dearestStamp() {
            int dearest = 0;
            for (int k = 0; k < STAMP_KINDS; k++) {
                if (many[k] > 0) {
                    dearest = Math.max(dearest, value[k]);
                }
            }
            return dearest;
        }

        private void findBestWays(int last) {
            for (int sum = 1; sum <= last && sum < SUMS; sum++) {
                best[sum] = IMPOSSIBLE;
            }
            best[0] = 0;
            for (int k = 0; k < STAMP_KINDS; k++) {
                tryKind(k, last);
            }
        }

        /** Tries a kind in bundles of 1, 2, 4, .. stamps and the rest: with these any number can be taken. */
        private void tryKind(int k, int last) {
            int left = many[k];
            for (int bundle = 1; left > 0 && bundle <= MOST_STAMPS; bundle *= 2) {
                int stamps = Math.min(bundle, left);
                tryBundle(k, stamps, last);
                left -= stamps;
            }
        }

        private void tryBundle(int k, int stamps, int last) {
            int worth = stamps * value[k];
            long cost = stamps * ((1L << ALL_BITS) - (1L << shiftOf(k)));
            // From the greatest sum down: the lesser sums don't have this bundle yet.
            for (int sum = Math.min(last, SUMS - 1); worth > 0 && sum >= worth; sum--) {
                if (best[sum - worth] != IMPOSSIBLE) {
                    best[sum] = Math.min(best[sum], best[sum - worth] + cost);
                }
            }
        }

        private void takeOut(long way) {
            long stamps = (way + (1L << ALL_BITS) - 1) >> ALL_BITS;
            long ofEach = (stamps << ALL_BITS) - way;
            for (int k = 0; k < STAMP_KINDS; k++) {
                went[k] = (int) (ofEach >> shiftOf(k)) & ((1 << BITS) - 1);
                many[k] -= went[k];
            }
        }

        private static int shiftOf(int k) {
            return BITS * (STAMP_KINDS - 1 - k);
        }
    }
}
