/**
 * Servers that share a room: events come from any of them at any time, in any order, and each
 * server finds by itself, from the graph of events alone, who may do what and what the room's
 * state is.
 */
public final class RoomFederation {
    public static final int REFUSED = -1, NONE = -2, FULL = -3, DENIED = -4, KNOWN = -5, HELD = -6;

    private static final int SERVERS = 4;
    private static final int USERS = 12;
    private static final int TOPICS = 8;
    private static final int MOST_EVENTS = 400;
    private static final int MOST_HELD = 32;
    private static final int MOST_PARENTS = 4;
    private static final int NO_SUCH_LEVEL = 1000;

    private static final int CREATE = 0, MEMBER = 1, POWER = 2, RULE = 3, TOPIC = 4, MESSAGE = 5;
    private static final int OUT = 0, JOINED = 1, INVITED = 2, BANNED = 3;
    private static final int OPEN = 0, BY_INVITATION = 1;
    private static final int HIGHEST_LEVEL = 100, STRONG_LEVEL = 50;

    // A state is a row of places: one each for CREATE, POWER and RULE, then the users' MEMBERs,
    // then the TOPICs.
    private static final int CREATE_PLACE = 0, POWER_PLACE = 1, RULE_PLACE = 2;
    private static final int FIRST_MEMBER_PLACE = 3;
    private static final int FIRST_TOPIC_PLACE = FIRST_MEMBER_PLACE + USERS;
    private static final int PLACES = FIRST_TOPIC_PLACE + TOPICS;
    private static final int NO_PLACE = -1;

    private final Log log = new Log();
    private final Resolver resolver = new Resolver();
    private final Server[] servers = new Server[SERVERS];

    public RoomFederation() {
        for (int s = 0; s < SERVERS; s++) {
            servers[s] = new Server();
        }
    }

    public int send(int user, int kind, int a, int b, int time) {
        if (!Law.isProper(user, kind, a, b)) {
            return REFUSED;
        }
        if (log.isFull()) {
            return FULL;
        }
        Server home = servers[user % SERVERS];
        State now = resolver.stateOf(home, log);
        Event event = new Event(log.size(), user, kind, a, b, time);
        event.setParents(home.latestHeads(log));
        event.setGrounds(Law.needed(now, event));
        if (!Law.allows(now, event)) {
            return DENIED;
        }
        // With few enough heads the parents are all of them, so what is before the event is known.
        boolean allHeads = home.headCount() <= MOST_PARENTS;
        return admit(event, allHeads ? now : resolver.resolve(event.parents, event.parents.length, log));
    }

    public int forge(int user, int kind, int a, int b, int time, int one, int two) {
        if (!Law.isProper(user, kind, a, b)) {
            return REFUSED;
        }
        Server home = servers[user % SERVERS];
        if (!home.canFollow(one) || !home.canFollow(two)) {
            return NONE;
        }
        if (log.isFull()) {
            return FULL;
        }
        Event event = new Event(log.size(), user, kind, a, b, time);
        event.setParents(log.pair(one, two));
        State earlier = resolver.resolve(event.parents, event.parents.length, log);
        event.setGrounds(Law.needed(earlier, event));
        return admit(event, earlier);
    }

    public int deliver(int server, int event) {
        Server to = serverOf(server);
        if (to == null) {
            return REFUSED;
        }
        Event coming = log.find(event);
        return coming == null ? NONE : to.receive(coming, log);
    }

    public int sync(int from, int to) {
        Server source = serverOf(from);
        Server target = serverOf(to);
        if (source == null || target == null) {
            return REFUSED;
        }
        int before = target.knownCount();
        for (int n = 0; n < log.size(); n++) {
            Event coming = log.find(n);
            if (coming != null && source.hasKnown(n)) {
                target.receive(coming, log);
            }
        }
        return target.knownCount() - before;
    }

    public int state(int server, int kind, int key) {
        Server asked = serverOf(server);
        if (asked == null || !isStateKey(kind, key)) {
            return REFUSED;
        }
        return numberIn(resolver.stateOf(asked, log), kind, key);
    }

    public int before(int event, int kind, int key) {
        if (!isStateKey(kind, key)) {
            return REFUSED;
        }
        Event asked = log.find(event);
        return asked == null ? NONE : numberIn(asked.earlier, kind, key);
    }

    public int look(int event, int what) {
        if (what < 0 || what > 7) {
            return REFUSED;
        }
        Event asked = log.find(event);
        if (asked == null) {
            return NONE;
        }
        switch (what) {
            case 0: return asked.sender;
            case 1: return asked.kind;
            case 2: return asked.a;
            case 3: return asked.b;
            case 4: return asked.parents.length;
            case 5: return asked.grounds.size();
            case 6: return asked.good ? 1 : 0;
            default: return asked.id;
        }
    }

    public int level(int server, int user) {
        Server asked = serverOf(server);
        if (asked == null || !Law.isUser(user)) {
            return NO_SUCH_LEVEL;
        }
        return resolver.stateOf(asked, log).levelOf(user);
    }

    public int knows(int server, int event) {
        Server asked = serverOf(server);
        if (asked == null) {
            return REFUSED;
        }
        if (asked.hasKnown(event)) {
            return 1;
        }
        return asked.isHolding(event) ? 2 : 0;
    }

    public int head(int server, int k) {
        Server asked = serverOf(server);
        return asked == null ? REFUSED : asked.headNumber(k, log);
    }

    public int count(int server, int what) {
        Server asked = serverOf(server);
        if (asked == null) {
            return REFUSED;
        }
        switch (what) {
            case 0: return asked.knownCount();
            case 1: return asked.heldCount();
            case 2: return asked.headCount();
            case 3: return resolver.stateOf(asked, log).size();
            default: return REFUSED;
        }
    }

    public int events() {
        return log.size();
    }

    private int admit(Event event, State earlier) {
        event.settle(earlier);
        log.append(event);
        servers[event.sender % SERVERS].receive(event, log);
        return event.number;
    }

    private Server serverOf(int server) {
        return server >= 0 && server < SERVERS ? servers[server] : null;
    }

    private static boolean isStateKey(int kind, int key) {
        return kind >= CREATE && kind <= TOPIC && Law.isUser(key);
    }

    private static int numberIn(State state, int kind, int key) {
        Event found = state.at(State.placeOf(kind, key));
        return found == null ? NONE : found.number;
    }

    /** All events that were made, by their numbers. */
    static final class Log {
        private final Event[] made = new Event[MOST_EVENTS];
        private int size = 0;

        int size() {
            return size;
        }

        boolean isFull() {
            return size >= MOST_EVENTS;
        }

        Event find(int number) {
            return number >= 0 && number < size ? made[number] : null;
        }

        void append(Event event) {
            if (size < MOST_EVENTS) {
                made[size] = event;
                size++;
            }
        }

        /** The events of two numbers, without those that there are not, and each once. */
        Event[] pair(int one, int two) {
            Event first = find(one);
            Event second = two == one ? null : find(two);
            int found = (first == null ? 0 : 1) + (second == null ? 0 : 1);
            Event[] both = new Event[found];
            if (found == 2) {
                both[0] = first;
                both[1] = second;
            } else if (found == 1) {
                both[0] = first == null ? second : first;
            }
            return both;
        }
    }

    /** A set of events by their numbers. */
    static final class EventSet {
        private static final int BITS = 64;
        private static final int WORDS = (MOST_EVENTS + BITS - 1) / BITS;

        private final long[] words = new long[WORDS];

        boolean has(int number) {
            return number >= 0 && number < MOST_EVENTS
                && (words[number / BITS] >>> (number % BITS) & 1L) != 0L;
        }

        void add(int number) {
            if (number >= 0 && number < MOST_EVENTS) {
                words[number / BITS] |= 1L << (number % BITS);
            }
        }

        void remove(int number) {
            if (number >= 0 && number < MOST_EVENTS) {
                words[number / BITS] &= ~(1L << (number % BITS));
            }
        }

        void clear() {
            for (int w = 0; w < WORDS; w++) {
                words[w] = 0L;
            }
        }

        void copy(EventSet other) {
            for (int w = 0; w < WORDS; w++) {
                words[w] = other.words[w];
            }
        }

        void addAll(EventSet other) {
            for (int w = 0; w < WORDS; w++) {
                words[w] |= other.words[w];
            }
        }

        void keepAll(EventSet other) {
            for (int w = 0; w < WORDS; w++) {
                words[w] &= other.words[w];
            }
        }

        void removeAll(EventSet other) {
            for (int w = 0; w < WORDS; w++) {
                words[w] &= ~other.words[w];
            }
        }

        boolean meets(EventSet other) {
            for (int w = 0; w < WORDS; w++) {
                if ((words[w] & other.words[w]) != 0L) {
                    return true;
                }
            }
            return false;
        }

        int size() {
            int size = 0;
            for (int w = 0; w < WORDS; w++) {
                size += Long.bitCount(words[w]);
            }
            return size;
        }
    }

    /** Something that a user did; it is not changed any more once it is in the log. */
    static final class Event {
        private static final int ID_FACTOR = 40503, ID_RANGE = 65536;

        final int number;
        final int sender;
        final int kind;
        final int a;
        final int b;
        final int time;
        final int id;
        final int place;
        final EventSet chain = new EventSet();
        Event[] parents = new Event[0];
        /** The state that the authorities make; they are needed of one state, so no two share a place. */
        State grounds = null;
        int senderLevel = 0;
        int[] levels = null;
        State earlier = null;
        State behind = null;
        boolean good = false;

        Event(int number, int sender, int kind, int a, int b, int time) {
            this.number = number;
            this.sender = sender;
            this.kind = kind;
            this.a = a;
            this.b = b;
            this.time = time;
            this.id = number * ID_FACTOR % ID_RANGE;
            this.place = State.placeOf(kind, kind == MEMBER || kind == TOPIC ? a : 0);
        }

        void setParents(Event[] given) {
            parents = given;
        }

        void setGrounds(State given) {
            grounds = given;
            given.addChainTo(chain);
            senderLevel = given.levelOf(sender);
            if (kind == POWER) {
                levels = new int[USERS];
                for (int u = 0; u < USERS; u++) {
                    levels[u] = u == a ? b : given.levelOf(u);
                }
            }
        }

        /** Takes the state before the event, and finds from it whether the event is good. */
        void settle(State given) {
            earlier = given;
            good = (kind == CREATE || parents.length > 0)
                && grounds.isAllGood() && Law.allows(grounds, this) && Law.allows(given, this);
            behind = good && place != NO_PLACE ? given.with(this) : given;
        }

        /** If the event decides what others may do, so that it is tried ahead of them. */
        boolean isPowerful() {
            return kind == POWER || kind == RULE
                || kind == MEMBER && (b == OUT || b == BANNED) && sender != a;
        }

        boolean isOlderThan(Event other) {
            return time != other.time ? time < other.time : id < other.id;
        }

        /** The POWER of the authorities, or null. */
        Event powerBelow() {
            return grounds == null ? null : grounds.at(POWER_PLACE);
        }
    }

    /** For some kinds and keys an event of these. */
    static final class State {
        private final Event[] places = new Event[PLACES];

        static int placeOf(int kind, int key) {
            switch (kind) {
                case CREATE: return key == 0 ? CREATE_PLACE : NO_PLACE;
                case POWER: return key == 0 ? POWER_PLACE : NO_PLACE;
                case RULE: return key == 0 ? RULE_PLACE : NO_PLACE;
                case MEMBER: return key >= 0 && key < USERS ? FIRST_MEMBER_PLACE + key : NO_PLACE;
                case TOPIC: return key >= 0 && key < TOPICS ? FIRST_TOPIC_PLACE + key : NO_PLACE;
                default: return NO_PLACE;
            }
        }

        Event at(int place) {
            return place >= 0 && place < PLACES ? places[place] : null;
        }

        void put(Event event) {
            if (event != null && event.place != NO_PLACE) {
                places[event.place] = event;
            }
        }

        State with(Event event) {
            State copy = new State();
            copy.copy(this);
            copy.put(event);
            return copy;
        }

        void copy(State other) {
            for (int p = 0; p < PLACES; p++) {
                places[p] = other.places[p];
            }
        }

        /** Where this state has nothing, it takes what the other one has. */
        void fillFrom(State other) {
            for (int p = 0; p < PLACES; p++) {
                if (places[p] == null) {
                    places[p] = other.places[p];
                }
            }
        }

        /** Where the other state has something, this one takes it. */
        void overlay(State other) {
            for (int p = 0; p < PLACES; p++) {
                if (other.places[p] != null) {
                    places[p] = other.places[p];
                }
            }
        }

        void keepSame(State other) {
            for (int p = 0; p < PLACES; p++) {
                if (places[p] != other.places[p]) {
                    places[p] = null;
                }
            }
        }

        /** Adds the events of this state, and their chains. */
        void addChainTo(EventSet set) {
            for (int p = 0; p < PLACES; p++) {
                Event event = places[p];
                if (event != null) {
                    set.add(event.number);
                    set.addAll(event.chain);
                }
            }
        }

        /** Adds the events in places where the other state has nothing. */
        void addUnlikeTo(EventSet set, State other) {
            for (int p = 0; p < PLACES; p++) {
                if (places[p] != null && other.places[p] == null) {
                    set.add(places[p].number);
                }
            }
        }

        int size() {
            int size = 0;
            for (int p = 0; p < PLACES; p++) {
                size += places[p] == null ? 0 : 1;
            }
            return size;
        }

        boolean isAllGood() {
            for (int p = 0; p < PLACES; p++) {
                if (places[p] != null && !places[p].good) {
                    return false;
                }
            }
            return true;
        }

        int levelOf(int user) {
            Event power = places[POWER_PLACE];
            if (power != null && power.levels != null) {
                return power.levels[user];
            }
            Event create = places[CREATE_PLACE];
            return create != null && create.sender == user ? HIGHEST_LEVEL : 0;
        }

        int membershipOf(int user) {
            Event member = places[FIRST_MEMBER_PLACE + user];
            return member == null ? OUT : member.b;
        }

        /** Who made the room may enter it, open or not, as long as nothing more was settled. */
        boolean awaitsMaker(int user) {
            Event create = places[CREATE_PLACE];
            return create != null && create.sender == user
                && places[POWER_PLACE] == null && places[FIRST_MEMBER_PLACE + user] == null;
        }

        boolean isOpen() {
            Event rule = places[RULE_PLACE];
            return rule == null || rule.b == OPEN;
        }
    }

    /** What is asked of an event: proper numbers, authorities, and leave by a state. */
    static final class Law {
        static boolean isUser(int user) {
            return user >= 0 && user < USERS;
        }

        static boolean isProper(int user, int kind, int a, int b) {
            if (!isUser(user)) {
                return false;
            }
            switch (kind) {
                case CREATE: case RULE: case MESSAGE: return true;
                case MEMBER: return isUser(a);
                case POWER: return isUser(a) && b >= -HIGHEST_LEVEL && b <= HIGHEST_LEVEL;
                case TOPIC: return a >= 0 && a < TOPICS;
                default: return false;
            }
        }

        static State needed(State of, Event event) {
            State needed = new State();
            if (event.kind == CREATE) {
                return needed;
            }
            needed.put(of.at(CREATE_PLACE));
            needed.put(of.at(POWER_PLACE));
            needed.put(of.at(State.placeOf(MEMBER, event.sender)));
            if (event.kind == MEMBER) {
                needed.put(of.at(State.placeOf(MEMBER, event.a)));
                needed.put(of.at(RULE_PLACE));
            }
            return needed;
        }

        static boolean allows(State by, Event event) {
            if (event.kind == CREATE) {
                return event.parents.length == 0;
            }
            if (by.at(CREATE_PLACE) == null) {
                return false;
            }
            if (event.kind == MEMBER) {
                return allowsMember(by, event);
            }
            if (by.membershipOf(event.sender) != JOINED) {
                return false;
            }
            boolean strong = by.levelOf(event.sender) >= STRONG_LEVEL;
            switch (event.kind) {
                case POWER: return strong && allowsLevels(by, event);
                case RULE: return strong && (event.b == OPEN || event.b == BY_INVITATION);
                case TOPIC: return strong;
                default: return true;
            }
        }

        private static boolean allowsMember(State by, Event event) {
            int was = by.membershipOf(event.a);
            if (event.b == JOINED) {
                return event.sender == event.a && was != BANNED
                    && (by.isOpen() || was == JOINED || was == INVITED || by.awaitsMaker(event.a));
            }
            if (event.b == OUT && event.sender == event.a) {
                return was == JOINED || was == INVITED;
            }
            if (by.membershipOf(event.sender) != JOINED) {
                return false;
            }
            int power = by.levelOf(event.sender);
            boolean above = power >= STRONG_LEVEL && power > by.levelOf(event.a);
            switch (event.b) {
                case INVITED: return was != JOINED && was != BANNED;
                case OUT: return above && was != OUT;
                case BANNED: return above;
                default: return false;
            }
        }

        private static boolean allowsLevels(State by, Event event) {
            if (event.levels == null) {
                return false;
            }
            int most = by.levelOf(event.sender);
            for (int u = 0; u < USERS; u++) {
                int was = by.levelOf(u);
                int will = event.levels[u];
                if (was != will && (was > most || will > most || u != event.sender && was == most)) {
                    return false;
                }
            }
            return true;
        }
    }

    /** What one server knows and holds. */
    static final class Server {
        private final EventSet known = new EventSet();
        private final EventSet held = new EventSet();
        private final EventSet heads = new EventSet();
        /** The server's state, or null if it was not resolved since an event came. */
        State now = null;

        boolean hasKnown(int number) {
            return known.has(number);
        }

        boolean isHolding(int number) {
            return held.has(number);
        }

        int knownCount() {
            return known.size();
        }

        int heldCount() {
            return held.size();
        }

        int headCount() {
            return heads.size();
        }

        /** If a number may be named as a parent here: a known event's, or -1 for none. */
        boolean canFollow(int number) {
            return number == -1 || known.has(number);
        }

        int headNumber(int k, Log log) {
            int passed = 0;
            for (int n = 0; n < log.size(); n++) {
                if (heads.has(n)) {
                    if (passed == k) {
                        return n;
                    }
                    passed++;
                }
            }
            return NONE;
        }

        /** Writes the heads into a row that has room for all events, and tells how many they are. */
        int listHeads(Event[] row, Log log) {
            int listed = 0;
            for (int n = 0; n < log.size(); n++) {
                if (heads.has(n) && listed < row.length) {
                    row[listed] = log.find(n);
                    listed++;
                }
            }
            return listed;
        }

        Event[] latestHeads(Log log) {
            Event[] latest = new Event[Math.min(headCount(), MOST_PARENTS)];
            int found = 0;
            for (int n = log.size() - 1; n >= 0 && found < latest.length; n--) {
                if (heads.has(n)) {
                    latest[found] = log.find(n);
                    found++;
                }
            }
            return latest;
        }

        /** Takes an event in: how many are known more then, or why none is. */
        int receive(Event event, Log log) {
            if (known.has(event.number)) {
                return KNOWN;
            }
            if (held.has(event.number)) {
                return HELD;
            }
            if (knowsParentsOf(event)) {
                learn(event);
                return 1 + release(event.number, log);
            }
            if (held.size() >= MOST_HELD) {
                return FULL;
            }
            held.add(event.number);
            return HELD;
        }

        private boolean knowsParentsOf(Event event) {
            for (int p = 0; p < event.parents.length; p++) {
                if (!known.has(event.parents[p].number)) {
                    return false;
                }
            }
            return true;
        }

        /** No known event has this one as a parent: such a one would have been held until now. */
        private void learn(Event event) {
            known.add(event.number);
            for (int p = 0; p < event.parents.length; p++) {
                heads.remove(event.parents[p].number);
            }
            heads.add(event.number);
            now = null;
        }

        /** One pass is enough: what waits for an event has a greater number than that event. */
        private int release(int learnt, Log log) {
            int released = 0;
            for (int n = learnt + 1; n < log.size(); n++) {
                Event waiting = held.has(n) ? log.find(n) : null;
                if (waiting != null && knowsParentsOf(waiting)) {
                    held.remove(n);
                    learn(waiting);
                    released++;
                }
            }
            return released;
        }
    }

    /** Makes one state of several; its rows are made once and used for every call. */
    static final class Resolver {
        private final State nothing = new State();
        private final State agreed = new State();
        private final State trial = new State();
        private final EventSet conflict = new EventSet();
        private final EventSet shared = new EventSet();
        private final EventSet chain = new EventSet();
        private final EventSet powers = new EventSet();
        private final Event[] tips = new Event[MOST_EVENTS];
        private final Event[] listed = new Event[MOST_EVENTS];
        private final Event[] queue = new Event[MOST_EVENTS];
        private final int[] rank = new int[MOST_EVENTS];

        State stateOf(Server server, Log log) {
            if (server.now == null) {
                server.now = resolve(tips, server.listHeads(tips, log), log);
            }
            return server.now;
        }

        /** The state resolved of those behind the first events of a row. */
        State resolve(Event[] row, int size, Log log) {
            if (size == 0) {
                return nothing;
            }
            if (size == 1) {
                return row[0].behind;
            }
            findAgreed(row, size);
            findConflict(row, size);
            partPowers(log);
            State resolved = new State();
            resolved.copy(agreed);
            tryQueue(orderOne(log), resolved);
            tryQueue(orderTwo(resolved, log), resolved);
            resolved.overlay(agreed);
            return resolved;
        }

        private void findAgreed(Event[] row, int size) {
            agreed.copy(row[0].behind);
            for (int i = 1; i < size; i++) {
                agreed.keepSame(row[i].behind);
            }
        }

        private void findConflict(Event[] row, int size) {
            conflict.clear();
            for (int i = 0; i < size; i++) {
                chain.clear();
                row[i].behind.addChainTo(chain);
                conflict.addAll(chain);
                if (i == 0) {
                    shared.copy(chain);
                } else {
                    shared.keepAll(chain);
                }
            }
            conflict.removeAll(shared);
            for (int i = 0; i < size; i++) {
                row[i].behind.addUnlikeTo(conflict, agreed);
            }
        }

        /** Takes the powers, with what is of the conflict in their chains, out of the conflict. */
        private void partPowers(Log log) {
            powers.clear();
            for (int n = 0; n < log.size(); n++) {
                Event event = conflict.has(n) ? log.find(n) : null;
                if (event != null && event.isPowerful()) {
                    powers.add(n);
                    powers.addAll(event.chain);
                }
            }
            powers.keepAll(conflict);
            conflict.removeAll(powers);
        }

        private int list(EventSet set, Log log) {
            int size = 0;
            for (int n = 0; n < log.size(); n++) {
                if (set.has(n)) {
                    listed[size] = log.find(n);
                    size++;
                }
            }
            return size;
        }

        /** Fills the queue with the powers; their set is used up, as it tells which of them are left. */
        private int orderOne(Log log) {
            int size = list(powers, log);
            for (int done = 0; done < size; done++) {
                int first = firstFree(size - done);
                queue[done] = listed[first];
                powers.remove(listed[first].number);
                listed[first] = listed[size - done - 1];
            }
            return size;
        }

        private int firstFree(int size) {
            int first = 0;
            boolean found = false;
            for (int i = 0; i < size; i++) {
                if ((!found || isAhead(listed[i], listed[first])) && !powers.meets(listed[i].chain)) {
                    first = i;
                    found = true;
                }
            }
            return first;
        }

        private static boolean isAhead(Event one, Event other) {
            return one.senderLevel != other.senderLevel
                ? one.senderLevel > other.senderLevel : one.isOlderThan(other);
        }

        /** Fills the queue with what was left of the conflict. */
        private int orderTwo(State by, Log log) {
            int length = rankMainline(by);
            int size = list(conflict, log);
            for (int i = 0; i < size; i++) {
                Event event = listed[i];
                int own = rankOf(event, length);
                int to = i;
                while (to > 0 && comesLater(queue[to - 1], event, own)) {
                    queue[to] = queue[to - 1];
                    to--;
                }
                queue[to] = event;
                rank[event.number] = own;
            }
            return size;
        }

        /** No event that is queued is in the mainline, so its own rank may stand in the same row. */
        private boolean comesLater(Event queued, Event event, int own) {
            int other = rank[queued.number];
            return other != own ? other < own : event.isOlderThan(queued);
        }

        /** Ranks the mainline's events from 0 on, all others -1: how long it is. */
        private int rankMainline(State by) {
            for (int n = 0; n < MOST_EVENTS; n++) {
                rank[n] = -1;
            }
            Event power = by.at(POWER_PLACE);
            int length = 0;
            while (power != null && length < MOST_EVENTS) {
                rank[power.number] = length;
                length++;
                power = power.powerBelow();
            }
            return length;
        }

        private int rankOf(Event event, int beyond) {
            Event power = event;
            for (int step = 0; step < MOST_EVENTS && power != null; step++) {
                if (rank[power.number] >= 0) {
                    return rank[power.number];
                }
                power = power.powerBelow();
            }
            return beyond;
        }

        private void tryQueue(int size, State resolved) {
            for (int i = 0; i < size; i++) {
                trial.copy(resolved);
                trial.fillFrom(queue[i].grounds);
                if (Law.allows(trial, queue[i])) {
                    resolved.put(queue[i]);
                }
            }
        }
    }
}
