/**
 * The limits that the document's terms name, and their words on what there is none of: at each limit
 * the last number inside it and the first one outside.
 */
public final class LimitsTest extends Rooms {
    public static void main(String[] args) {
        usersAreAtTheirServers();
        numbersGoOverAllServers();
        atMostFourHundredEvents();
        idsWrapAround();
        noParents();
        parentsAreAtMostFour();
        parentsAreTheGreatestHeads();
        keysOfKinds();
        everyPlaceOfAState();
        membershipsAreFour();
        rulesAreTwo();
        levelsReachBothEnds();
        levelsWithoutPowerBelow();
        levelsOfMakerAsA();
        stateWithoutCreate();
        stateWithoutPower();
        stateWithoutMember();
        stateWithoutRule();
        neededOfWhatThereIs();
        neededEachOnce();
        makerJoinsOnlyAtFirst();
        makerWithPowerIsLikeOthers();
        membershipOfA();
        membershipOfSender();
        fiftyIsEnough();
        aboveThatOfA();
        powerUpToOwnLevel();
        powerOverLowerLevels();
        powerOverItself();
        powerThatChangesNothing();
        powerWritesAllLevels();
        goodNeedsParents();
        goodCreateHasNone();
        timesAreOfAllInts();
        timesInOrderTwoAreOfAllInts();
        idsDecideAtLast();
        beyondAll();
        beyondAllWithoutMainline();
        oneStateIsItself();
        nothingBesideAState();
        authoritiesWhereThereIsNothing();
        serverWithoutHeads();
        manyHeads();
        heldWaitInLine();
        heldComeOnlyWithAllParents();
        callsUpTo512();
        forgingUpTo512();
        Check.end();
    }

    // ---- "USERS 0 to 11, user u at server u % 4", "EVENTS are numbered from 0 as they are made"

    private static void usersAreAtTheirServers() {
        for (int u = 0; u < 12; u++) {
            RoomFederation x = new RoomFederation();
            due("user " + u + " makes a room", x.send(u, CREATE, 0, 0, 0), 0);
            due("and joins", x.send(u, MEMBER, u, JOINED, 0), 1);
            for (int s = 0; s < 4; s++) {
                due("user " + u + ", known at " + s, x.knows(s, 1), s == u % 4 ? 1 : 0);
                due("user " + u + ", its level at " + s, x.level(s, u), s == u % 4 ? 100 : 0);
            }
            due("user " + u + " forges there", x.forge(u, MESSAGE, 0, 0, 0, 1, -1), 2);
            due("user " + (11 - u) + " forges elsewhere", x.forge(11 - u, MESSAGE, 0, 0, 0, 1, -1), NONE);
        }
    }

    private static void numbersGoOverAllServers() {
        RoomFederation x = new RoomFederation();
        for (int u = 0; u < 4; u++) {
            due("a room at each server", x.send(u, CREATE, 0, 0, 0), u);
            due("it is the only head there", x.head(u, 0), u);
        }
        due("the next one", x.send(7, MEMBER, 7, JOINED, 0), 4);
    }

    /** "at most 400" */
    private static void atMostFourHundredEvents() {
        RoomFederation x = lengthy(400);
        due("the last number", x.head(0, 0), 399);
        due("400 are known", x.count(0, 0), 400);
        due("its sender", x.look(399, 0), 0);
        due("its good", x.look(399, 6), 1);
        due("what is before it", x.before(399, MEMBER, 0), 1);
        due("there is no event 400", x.look(400, 0), NONE);
        due("there is no event 400", x.before(400, MEMBER, 0), NONE);
        due("there is no event 400", x.knows(0, 400), 0);
        due("there is no event 400", x.deliver(1, 400), NONE);
        due("no more", x.send(0, MESSAGE, 0, 0, 0), FULL);
        due("all come", x.sync(0, 1), 400);
        due("to the last one", x.knows(1, 399), 1);
    }

    /** "ID of event e: e * 40503 modulo 65536." */
    private static void idsWrapAround() {
        RoomFederation x = lengthy(400);
        due("ID of 0", x.look(0, 7), 0);
        due("ID of 1, the last below 65536", x.look(1, 7), 40503);
        due("ID of 2, the first that wraps", x.look(2, 7), 15470);
        due("ID of 3", x.look(3, 7), 55973);
        due("ID of 399", x.look(399, 7), 38841);
        int id = 0;
        for (int e = 0; e < 100; e++) {
            due("ID of " + e, x.look(e, 7), id);
            id += 40503;
            id -= id >= 65536 ? 65536 : 0;
        }
    }

    // ---- "PARENTS, 0 to 4 different events"

    private static void noParents() {
        RoomFederation x = begun();
        due("a CREATE has no parents", x.look(0, 4), 0);
        due("what is behind it has one", x.look(1, 4), 1);
        due("nothing is before a CREATE", x.before(0, CREATE, 0), NONE);
        due("a TOPIC without parents", x.forge(0, TOPIC, 0, 0, 3, -1, -1), 2);
        due("has no parents", x.look(2, 4), 0);
        due("has no authorities", x.look(2, 5), 0);
        for (int kind = CREATE; kind <= TOPIC; kind++) {
            due("nothing is before it, kind " + kind, x.before(2, kind, 0), NONE);
        }
        due("it is a head", x.head(0, 1), 2);
    }

    private static void parentsAreAtMostFour() {
        for (int heads = 1; heads <= 7; heads++) {
            RoomFederation x = begun();
            for (int i = 0; i < heads; i++) {
                due("beside", x.forge(0, MESSAGE, 0, 0, 3, 1, -1), 2 + i);
            }
            due("heads", x.count(0, 2), heads);
            int next = 2 + heads;
            due("of " + heads + " heads", x.send(0, MESSAGE, 0, 0, 4), next);
            due("parents of " + heads + " heads", x.look(next, 4), Math.min(heads, 4));
            due("heads then", x.count(0, 2), heads - Math.min(heads, 4) + 1);
            due("the least head then", x.head(0, 0), heads > 4 ? 2 : next);
        }
    }

    /** "of more than 4 those of the greatest numbers" */
    private static void parentsAreTheGreatestHeads() {
        RoomFederation x = begun();
        for (int i = 0; i < 5; i++) {
            due("five heads", x.forge(0, TOPIC, i, 0, 3, 1, -1), 2 + i);
        }
        due("by all of them", x.count(0, 3), 7);
        due("a message", x.send(0, MESSAGE, 0, 0, 4), 7);
        due("the least head is no parent", x.before(7, TOPIC, 0), NONE);
        for (int i = 1; i < 5; i++) {
            due("the others are", x.before(7, TOPIC, i), 2 + i);
        }
        due("the least head stays", x.head(0, 0), 2);
        due("and the new one", x.head(0, 1), 7);
        due("and no more", x.head(0, 2), NONE);
    }

    // ---- kinds, keys and their numbers

    private static void keysOfKinds() {
        RoomFederation x = new RoomFederation();
        due("CREATE of A 5", x.send(0, CREATE, 5, 0, 1), 0);
        due("join", x.send(0, MEMBER, 0, JOINED, 2), 1);
        due("POWER of A 5", x.send(0, POWER, 5, 5, 3), 2);
        due("RULE of A 5", x.send(0, RULE, 5, 0, 4), 3);
        due("RULE of A 99", x.send(0, RULE, 99, 0, 4), 4);
        due("TOPIC of A 5", x.send(0, TOPIC, 5, 0, 5), 5);
        due("MEMBER of A 5", x.send(0, MEMBER, 5, INVITED, 6), 6);
        due("MESSAGE of A 5", x.send(0, MESSAGE, 5, 0, 7), 7);
        int[] atZero = {0, 1, 2, 4, NONE};
        int[] atFive = {NONE, 6, NONE, NONE, 5};
        for (int kind = CREATE; kind <= TOPIC; kind++) {
            due("key 0 of kind " + kind, x.state(0, kind, 0), atZero[kind]);
            due("key 5 of kind " + kind, x.state(0, kind, 5), atFive[kind]);
            due("key 0 of kind " + kind + " before", x.before(7, kind, 0), atZero[kind]);
            due("key 5 of kind " + kind + " before", x.before(7, kind, 5), atFive[kind]);
        }
        due("a MESSAGE is no part of it", x.count(0, 3), 6);
    }

    private static void everyPlaceOfAState() {
        RoomFederation x = begun();
        for (int u = 1; u < 12; u++) {
            due("invited " + u, x.send(0, MEMBER, u, INVITED, 3), 1 + u);
        }
        for (int t = 0; t < 8; t++) {
            due("topic " + t, x.send(0, TOPIC, t, 0, 4), 13 + t);
        }
        due("rule", x.send(0, RULE, 0, 1, 5), 21);
        due("power", x.send(0, POWER, 0, 100, 6), 22);
        due("23 events of 23 places", x.count(0, 3), 23);
        for (int u = 0; u < 12; u++) {
            due("MEMBER " + u, x.state(0, MEMBER, u), 1 + u);
            due("TOPIC " + u, x.state(0, TOPIC, u), u < 8 ? 13 + u : NONE);
        }
        due("one more", x.send(0, MESSAGE, 0, 0, 7), 23);
        due("23 still", x.count(0, 3), 23);
    }

    /** "B: 0 out, 1 joined, 2 invited, 3 banned", "(Other B: never.)" */
    private static void membershipsAreFour() {
        RoomFederation x = peopled();
        int[] none = {LEAST, -1, 4, 5, MOST};
        for (int b : none) {
            due("of itself, B " + b, x.send(4, MEMBER, 4, b, 6), DENIED);
            due("of another, B " + b, x.send(0, MEMBER, 8, b, 6), DENIED);
            due("of one who is out, B " + b, x.send(0, MEMBER, 1, b, 6), DENIED);
        }
        due("forged B 4", x.forge(0, MEMBER, 8, 4, 6, 4, -1), 5);
        due("is not good", x.look(5, 6), 0);
        due("forged B -1", x.forge(8, MEMBER, 8, -1, 6, 5, -1), 6);
        due("is not good", x.look(6, 6), 0);
        due("8 is joined still", x.state(0, MEMBER, 8), 3);
        due("out", x.send(0, MEMBER, 8, OUT, 7), 7);
        due("joined", x.send(8, MEMBER, 8, JOINED, 7), 8);
        due("invited", x.send(8, MEMBER, 1, INVITED, 7), 9);
        due("banned", x.send(0, MEMBER, 1, BANNED, 7), 10);
    }

    /** "RULE (B 0 or 1)" */
    private static void rulesAreTwo() {
        RoomFederation x = begun();
        int[] none = {LEAST, -1, 2, 3, MOST};
        for (int b : none) {
            due("rule " + b, x.send(0, RULE, 0, b, 3), DENIED);
        }
        due("forged rule 2", x.forge(0, RULE, 0, 2, 3, 1, -1), 2);
        due("is not good", x.look(2, 6), 0);
        due("forged rule -1", x.forge(0, RULE, 0, -1, 3, 2, -1), 3);
        due("is not good", x.look(3, 6), 0);
        due("there is no rule", x.state(0, RULE, 0), NONE);
        due("rule 1", x.send(0, RULE, 0, 1, 4), 4);
        due("not open", x.send(4, MEMBER, 4, JOINED, 5), DENIED);
        due("rule 0", x.send(0, RULE, 0, 0, 6), 5);
        due("open", x.send(4, MEMBER, 4, JOINED, 7), 6);
    }

    // ---- "LEVELS of all users, -100 to 100"

    private static void levelsReachBothEnds() {
        RoomFederation x = begun();
        due("-100", x.send(0, POWER, 4, -100, 3), 2);
        due("-100", x.level(0, 4), -100);
        due("-101", x.send(0, POWER, 4, -101, 3), REFUSED);
        due("99", x.send(0, POWER, 4, 99, 3), 3);
        due("99", x.level(0, 4), 99);
        due("101", x.send(0, POWER, 4, 101, 3), REFUSED);
        due("101 of itself", x.send(0, POWER, 0, 101, 3), REFUSED);
        due("100", x.send(0, POWER, 4, 100, 3), 4);
        due("100", x.level(0, 4), 100);
        due("100 of itself down to -100", x.send(0, POWER, 0, -100, 4), 5);
        due("-100", x.level(0, 0), -100);
        due("100", x.level(0, 4), 100);
        due("who has -100 speaks", x.send(0, MESSAGE, 0, 0, 5), 6);
        due("and is removed by nobody who is out", x.send(4, MEMBER, 0, OUT, 5), DENIED);
    }

    /** "without such a one all 0, but the sender of the CREATE ... 100, and then A has B" */
    private static void levelsWithoutPowerBelow() {
        RoomFederation x = begun();
        due("the first POWER", x.send(0, POWER, 4, 60, 3), 2);
        for (int u = 0; u < 12; u++) {
            due("level of " + u, x.level(0, u), u == 0 ? 100 : u == 4 ? 60 : 0);
        }
        due("the second POWER", x.send(0, POWER, 8, 30, 4), 3);
        for (int u = 0; u < 12; u++) {
            due("level of " + u, x.level(0, u), u == 0 ? 100 : u == 4 ? 60 : u == 8 ? 30 : 0);
        }
        due("a POWER without authorities", x.forge(0, POWER, 0, 100, 5, -1, -1), 4);
        due("has none", x.look(4, 5), 0);
        due("is not good", x.look(4, 6), 0);
        due("is in no state", x.state(0, POWER, 0), 3);
    }

    private static void levelsOfMakerAsA() {
        RoomFederation x = begun();
        due("the first POWER is of the maker", x.send(0, POWER, 0, 50, 3), 2);
        for (int u = 0; u < 12; u++) {
            due("level of " + u, x.level(0, u), u == 0 ? 50 : 0);
        }
    }

    // ---- what a state may be without

    /** "All others: there is a CREATE"; without POWER and CREATE all levels are 0. */
    private static void stateWithoutCreate() {
        RoomFederation x = new RoomFederation();
        for (int kind = MEMBER; kind <= MESSAGE; kind++) {
            for (int b = 0; b < 4; b++) {
                due("kind " + kind + " B " + b, x.send(0, kind, 0, b, 0), DENIED);
            }
        }
        for (int u = 0; u < 12; u++) {
            due("level of " + u, x.level(u % 4, u), 0);
        }
        due("a head without a CREATE behind it", x.forge(0, MEMBER, 0, JOINED, 0, -1, -1), 0);
        due("kind 1", x.send(0, MEMBER, 0, JOINED, 0), DENIED);
        due("a CREATE behind it", x.send(0, CREATE, 0, 0, 0), DENIED);
        due("a CREATE beside it", x.forge(0, CREATE, 0, 0, 0, -1, -1), 1);
        due("kind 1", x.send(0, MEMBER, 0, JOINED, 0), 2);
        due("two parents", x.look(2, 4), 2);
    }

    /** "LEVEL ...: without one 100 for the sender of its CREATE, 0 for others." */
    private static void stateWithoutPower() {
        RoomFederation x = new RoomFederation();
        due("user 7 makes it", x.send(7, CREATE, 0, 0, 0), 0);
        for (int u = 0; u < 12; u++) {
            due("level of " + u, x.level(3, u), u == 7 ? 100 : 0);
        }
        due("user 7 joins", x.send(7, MEMBER, 7, JOINED, 0), 1);
        due("user 3 joins", x.send(3, MEMBER, 3, JOINED, 0), 2);
        due("level 0 sets no topic", x.send(3, TOPIC, 0, 0, 0), DENIED);
        due("level 100 does", x.send(7, TOPIC, 0, 0, 0), 3);
        due("level 0 does not remove", x.send(3, MEMBER, 7, OUT, 0), DENIED);
        due("level 100 does", x.send(7, MEMBER, 3, OUT, 0), 4);
    }

    /** "MEMBERSHIP: ... without one out." */
    private static void stateWithoutMember() {
        RoomFederation x = begun();
        due("4 is silent", x.send(4, MESSAGE, 0, 0, 3), DENIED);
        due("4 invites nobody", x.send(4, MEMBER, 8, INVITED, 3), DENIED);
        due("4 cannot leave", x.send(4, MEMBER, 4, OUT, 3), DENIED);
        due("4 is not removed", x.send(0, MEMBER, 4, OUT, 3), DENIED);
        due("4 is banned", x.send(0, MEMBER, 4, BANNED, 3), 2);
        due("8 is invited", x.send(0, MEMBER, 8, INVITED, 3), 3);
        RoomFederation y = new RoomFederation();
        due("the maker alone", y.send(0, CREATE, 0, 0, 1), 0);
        due("is silent", y.send(0, MESSAGE, 0, 0, 2), DENIED);
        due("sets no topic", y.send(0, TOPIC, 0, 0, 2), DENIED);
        due("sets no rule", y.send(0, RULE, 0, 0, 2), DENIED);
        due("sets no level", y.send(0, POWER, 0, 100, 2), DENIED);
        due("cannot leave", y.send(0, MEMBER, 0, OUT, 2), DENIED);
        due("invites nobody", y.send(0, MEMBER, 4, INVITED, 2), DENIED);
        due("bans nobody", y.send(0, MEMBER, 4, BANNED, 2), DENIED);
        due("joins", y.send(0, MEMBER, 0, JOINED, 2), 1);
    }

    /** "RULE without one: open." */
    private static void stateWithoutRule() {
        RoomFederation x = begun();
        due("there is none", x.state(0, RULE, 0), NONE);
        due("4 joins", x.send(4, MEMBER, 4, JOINED, 3), 2);
        due("by CREATE alone", x.look(2, 5), 1);
        due("and is joined", x.send(4, MESSAGE, 0, 0, 4), 3);
    }

    /** "NEEDED ..., of those that the state has: ...; none for CREATE." */
    private static void neededOfWhatThereIs() {
        RoomFederation x = new RoomFederation();
        due("of nothing", x.forge(0, MEMBER, 4, INVITED, 0, -1, -1), 0);
        due("of nothing", x.look(0, 5), 0);
        due("CREATE", x.forge(0, CREATE, 0, 0, 0, -1, -1), 1);
        due("none", x.look(1, 5), 0);
        due("CREATE alone", x.forge(0, MEMBER, 4, INVITED, 0, 1, -1), 2);
        due("CREATE alone", x.look(2, 5), 1);
        due("the maker joins", x.forge(0, MEMBER, 0, JOINED, 0, 1, -1), 3);
        due("CREATE and MEMBER of the sender", x.forge(0, MEMBER, 4, INVITED, 0, 3, -1), 4);
        due("CREATE and MEMBER of the sender", x.look(4, 5), 2);
        due("a rule", x.forge(0, RULE, 0, 1, 0, 4, -1), 5);
        due("no MEMBER of A and no RULE for a RULE", x.look(5, 5), 2);
        due("a power", x.forge(0, POWER, 4, 0, 0, 5, -1), 6);
        due("no MEMBER of A and no RULE for a POWER", x.look(6, 5), 2);
        due("five at most", x.forge(0, MEMBER, 4, OUT, 0, 6, -1), 7);
        due("five at most", x.look(7, 5), 5);
        due("a topic", x.forge(0, TOPIC, 4, 0, 0, 6, -1), 8);
        due("CREATE, POWER, MEMBER of the sender", x.look(8, 5), 3);
        due("a message", x.forge(4, MESSAGE, 0, 0, 0, 6, -1), 9);
        due("CREATE, POWER, MEMBER of the sender", x.look(9, 5), 3);
        due("a message of one without MEMBER", x.forge(8, MESSAGE, 4, 0, 0, 6, -1), 10);
        due("CREATE, POWER", x.look(10, 5), 2);
        due("CREATE with parents", x.forge(0, CREATE, 0, 0, 0, 6, -1), 11);
        due("none", x.look(11, 5), 0);
    }

    /** "(each event once)" */
    private static void neededEachOnce() {
        RoomFederation x = begun();
        due("0 joins again", x.send(0, MEMBER, 0, JOINED, 3), 2);
        due("CREATE, MEMBER", x.look(2, 5), 2);
        due("0 leaves", x.send(0, MEMBER, 0, OUT, 4), 3);
        due("CREATE, MEMBER", x.look(3, 5), 2);
    }

    /** "or there is no MEMBER of A, no POWER, and s sent the CREATE" */
    private static void makerJoinsOnlyAtFirst() {
        RoomFederation x = begun();
        due("by invitation", x.send(0, RULE, 0, 1, 3), 2);
        due("a later CREATE at server 1", x.send(1, CREATE, 0, 0, 50), 3);
        due("flow together", x.sync(0, 1), 3);
        due("the later CREATE stands", x.state(1, CREATE, 0), 3);
        due("by invitation", x.state(1, RULE, 0), 2);
        due("who did not make it cannot join", x.send(5, MEMBER, 5, JOINED, 51), DENIED);
        due("who did can", x.send(1, MEMBER, 1, JOINED, 51), 4);
        due("and leave", x.send(1, MEMBER, 1, OUT, 52), 5);
        due("and then there is a MEMBER", x.send(1, MEMBER, 1, JOINED, 53), DENIED);
    }

    private static void makerWithPowerIsLikeOthers() {
        RoomFederation x = begun();
        due("by invitation", x.send(0, RULE, 0, 1, 3), 2);
        due("a POWER", x.send(0, POWER, 1, 50, 4), 3);
        due("a later CREATE at server 1", x.send(1, CREATE, 0, 0, 50), 4);
        due("flow together", x.sync(0, 1), 4);
        due("the later CREATE stands", x.state(1, CREATE, 0), 4);
        due("the POWER", x.state(1, POWER, 0), 3);
        due("no MEMBER", x.state(1, MEMBER, 1), NONE);
        due("with a POWER its maker cannot join", x.send(1, MEMBER, 1, JOINED, 51), DENIED);
    }

    // ---- each membership, and none, against each event that asks for one

    private static final int NO_MEMBER = -1;
    private static final int[] MEMBERSHIPS = {NO_MEMBER, OUT, JOINED, INVITED, BANNED};

    /** 0 (level 100) and 8 are joined, 4 has level 60 and a membership. */
    private static RoomFederation withMember(int membership) {
        RoomFederation x = begun();
        due("8 joins", x.send(8, MEMBER, 8, JOINED, 3), 2);
        due("4 has 60", x.send(0, POWER, 4, 60, 3), 3);
        if (membership == OUT || membership == JOINED) {
            due("4 joins", x.send(4, MEMBER, 4, JOINED, 3), 4);
        }
        if (membership == OUT) {
            due("4 leaves", x.send(4, MEMBER, 4, OUT, 3), 5);
        }
        if (membership == INVITED || membership == BANNED) {
            due("4 is invited or banned", x.send(0, MEMBER, 4, membership, 3), 4);
        }
        return x;
    }

    private static int actOnMember(RoomFederation x, int action) {
        switch (action) {
            case 0: return x.send(4, MEMBER, 4, JOINED, 4);
            case 1: return x.send(0, RULE, 0, 1, 4) < 0 ? REFUSED : x.send(4, MEMBER, 4, JOINED, 4);
            case 2: return x.send(8, MEMBER, 4, INVITED, 4);
            case 3: return x.send(4, MEMBER, 4, OUT, 4);
            case 4: return x.send(0, MEMBER, 4, OUT, 4);
            default: return x.send(0, MEMBER, 4, BANNED, 4);
        }
    }

    private static void membershipOfA() {
        String[] actions = {"joins an open room", "joins a room by invitation", "is invited", "leaves",
            "is removed", "is banned"};
        // of no MEMBER, one who is out, joined, invited, banned
        String[] allowed = {"yyyyn", "nnyyn", "yynyn", "nnyyn", "nnyyy", "yyyyy"};
        for (int action = 0; action < actions.length; action++) {
            for (int i = 0; i < MEMBERSHIPS.length; i++) {
                RoomFederation x = withMember(MEMBERSHIPS[i]);
                int made = actOnMember(x, action);
                String what = "membership " + MEMBERSHIPS[i] + " " + actions[action];
                due(what, made, allowed[action].charAt(i) == 'y' ? x.events() - 1 : DENIED);
            }
        }
    }

    private static int actAsMember(RoomFederation x, int action) {
        switch (action) {
            case 0: return x.send(4, MEMBER, 11, INVITED, 4);
            case 1: return x.send(4, MEMBER, 8, OUT, 4);
            case 2: return x.send(4, MEMBER, 8, BANNED, 4);
            case 3: return x.send(4, POWER, 8, 1, 4);
            case 4: return x.send(4, RULE, 0, 1, 4);
            case 5: return x.send(4, TOPIC, 0, 1, 4);
            default: return x.send(4, MESSAGE, 0, 1, 4);
        }
    }

    /** "s is joined" */
    private static void membershipOfSender() {
        for (int action = 0; action < 7; action++) {
            for (int membership : MEMBERSHIPS) {
                RoomFederation x = withMember(membership);
                due("membership " + membership + " does " + action, actAsMember(x, action),
                    membership == JOINED ? 5 : DENIED);
            }
        }
    }

    // ---- "LEVEL of s at or above 50 and above that of A"

    private static int act(RoomFederation x, int action) {
        switch (action) {
            case 0: return x.send(4, MEMBER, 8, OUT, 7);
            case 1: return x.send(4, MEMBER, 8, BANNED, 7);
            case 2: return x.send(4, POWER, 11, 1, 7);
            case 3: return x.send(4, RULE, 0, 1, 7);
            default: return x.send(4, TOPIC, 7, 0, 7);
        }
    }

    private static void fiftyIsEnough() {
        int[] few = {-100, 0, 49};
        for (int action = 0; action < 5; action++) {
            for (int level : few) {
                due("level " + level + ", action " + action, act(levelled(level, -100), action), DENIED);
            }
            due("level 50, action " + action, act(levelled(50, -100), action), 6);
            due("level 51, action " + action, act(levelled(51, -100), action), 6);
        }
    }

    private static void aboveThatOfA() {
        for (int action = 0; action < 2; action++) {
            due("60 over 59, action " + action, act(levelled(60, 59), action), 6);
            due("60 over 60, action " + action, act(levelled(60, 60), action), DENIED);
            due("60 over 61, action " + action, act(levelled(60, 61), action), DENIED);
            due("100 over 99, action " + action, act(levelled(100, 99), action), 6);
            due("100 over 100, action " + action, act(levelled(100, 100), action), DENIED);
            due("50 over 49, action " + action, act(levelled(50, 49), action), 6);
        }
    }

    // ---- "both levels are at most that of s, and, but for s itself, the old one is below it"

    private static void powerUpToOwnLevel() {
        due("60 gives 60", levelled(60, 0).send(4, POWER, 8, 60, 7), 6);
        due("60 gives 61", levelled(60, 0).send(4, POWER, 8, 61, 7), DENIED);
        due("60 gives 60 to one who is out", levelled(60, 0).send(4, POWER, 11, 60, 7), 6);
        due("60 gives 61 to one who is out", levelled(60, 0).send(4, POWER, 11, 61, 7), DENIED);
        due("50 gives 50", levelled(50, 0).send(4, POWER, 8, 50, 7), 6);
        due("50 gives 51", levelled(50, 0).send(4, POWER, 8, 51, 7), DENIED);
        due("100 gives 100", levelled(100, 0).send(4, POWER, 8, 100, 7), 6);
        due("50 gives -100", levelled(50, 0).send(4, POWER, 8, -100, 7), 6);
    }

    private static void powerOverLowerLevels() {
        due("60 lowers 59", levelled(60, 59).send(4, POWER, 8, 0, 7), 6);
        due("60 raises 59", levelled(60, 59).send(4, POWER, 8, 60, 7), 6);
        due("60 lowers 60", levelled(60, 60).send(4, POWER, 8, 59, 7), DENIED);
        due("60 lowers 61", levelled(60, 61).send(4, POWER, 8, 0, 7), DENIED);
        due("60 lowers 61 to its own", levelled(60, 61).send(4, POWER, 8, 60, 7), DENIED);
        due("100 lowers 99", levelled(100, 99).send(4, POWER, 8, 0, 7), 6);
        due("100 lowers 100", levelled(100, 100).send(4, POWER, 8, 99, 7), DENIED);
        due("100 lowers the maker's 100", levelled(100, 0).send(4, POWER, 0, 99, 7), DENIED);
        due("60 raises -100", levelled(60, -100).send(4, POWER, 8, -99, 7), 6);
    }

    private static void powerOverItself() {
        due("60 lowers itself", levelled(60, 0).send(4, POWER, 4, 59, 7), 6);
        due("60 lowers itself far", levelled(60, 0).send(4, POWER, 4, -100, 7), 6);
        due("60 does not raise itself", levelled(60, 0).send(4, POWER, 4, 61, 7), DENIED);
        due("50 lowers itself", levelled(50, 0).send(4, POWER, 4, 49, 7), 6);
        due("100 lowers itself", levelled(100, 0).send(4, POWER, 4, 99, 7), 6);
    }

    private static void powerThatChangesNothing() {
        due("its own level", levelled(60, 61).send(4, POWER, 4, 60, 7), 6);
        due("a higher level", levelled(60, 61).send(4, POWER, 8, 61, 7), 6);
        due("the maker's level", levelled(60, 61).send(4, POWER, 0, 100, 7), 6);
        due("below 50 not even that", levelled(49, 61).send(4, POWER, 0, 100, 7), DENIED);
    }

    /**
     * "for each user whose level is another one than by the state": not A's alone. POWER 7 of user 4
     * goes by POWER 5; where POWER 6 stands, it would take from 8 what user 4 may not take, or may.
     */
    private static void powerWritesAllLevels() {
        int[] given = {60, 59};
        int[] stands = {6, 7};
        for (int i = 0; i < 2; i++) {
            RoomFederation x = levelled(60, 0);
            due("0 gives 8 a level", x.forge(0, POWER, 8, given[i], 7, 5, -1), 6);
            due("4 gives 11 one beside that", x.forge(4, POWER, 11, 1, 8, 5, -1), 7);
            due("both are good", x.look(6, 6) + x.look(7, 6), 2);
            due("8 has " + given[i] + " before 4's is tried", x.state(0, POWER, 0), stands[i]);
        }
    }

    // ---- "and, for all but CREATE, it has parents"

    private static void goodNeedsParents() {
        RoomFederation x = begun();
        for (int kind = CREATE; kind <= MESSAGE; kind++) {
            due("kind " + kind + " without parents", x.forge(0, kind, 0, 1, 3, -1, -1), 2 + kind);
            due("kind " + kind + " without parents is good", x.look(2 + kind, 6), kind == CREATE ? 1 : 0);
        }
        due("with a parent", x.forge(0, MESSAGE, 0, 1, 3, 1, -1), 8);
        due("it is", x.look(8, 6), 1);
    }

    private static void goodCreateHasNone() {
        RoomFederation x = begun();
        due("behind another CREATE", x.forge(0, CREATE, 0, 0, 3, 0, -1), 2);
        due("is not good", x.look(2, 6), 0);
        due("behind what has nothing", x.forge(1, MESSAGE, 0, 0, 3, -1, -1), 3);
        due("behind what has nothing", x.forge(1, CREATE, 0, 0, 3, 3, -1), 4);
        due("is not good", x.look(4, 6), 0);
        due("is in no state", x.state(1, CREATE, 0), NONE);
        due("two parents", x.forge(1, CREATE, 0, 0, 3, 3, 4), 5);
        due("is not good", x.look(5, 6), 0);
    }

    // ---- the orders: "then of the least TIME, then of the least ID"

    /** Users 0 and 4, both of level 100, set levels beside one another: the one that is tried last stands. */
    private static int powerThatStands(int timeOf6, int timeOf7) {
        RoomFederation x = levelled(100, 0);
        due("0 sets one", x.forge(0, POWER, 8, 10, timeOf6, 5, -1), 6);
        due("4 sets one", x.forge(4, POWER, 11, 20, timeOf7, 5, -1), 7);
        return x.state(0, POWER, 0);
    }

    private static int topicThatStands(int timeOf6, int timeOf7) {
        RoomFederation x = levelled(100, 0);
        due("0 sets one", x.forge(0, TOPIC, 3, 10, timeOf6, 5, -1), 6);
        due("4 sets one", x.forge(4, TOPIC, 3, 20, timeOf7, 5, -1), 7);
        return x.state(0, TOPIC, 3);
    }

    /** Pairs whose difference is no int any more, too. */
    private static final int[][] TIMES = {{0, 1}, {-1, 0}, {-1, 1}, {LEAST, MOST}, {LEAST, 0}, {LEAST, 1},
        {-2, MOST}, {-1, MOST}, {0, MOST}, {MOST - 1, MOST}, {LEAST, LEAST + 1}};

    private static void timesAreOfAllInts() {
        for (int[] t : TIMES) {
            due("times " + t[0] + ", " + t[1], powerThatStands(t[0], t[1]), 7);
            due("times " + t[1] + ", " + t[0], powerThatStands(t[1], t[0]), 6);
        }
    }

    private static void timesInOrderTwoAreOfAllInts() {
        for (int[] t : TIMES) {
            due("times " + t[0] + ", " + t[1], topicThatStands(t[0], t[1]), 7);
            due("times " + t[1] + ", " + t[0], topicThatStands(t[1], t[0]), 6);
        }
    }

    /** Of 6 and 7 the IDs are 46410 and 21377, of 4 and 5 30940 and 5907, of 2 and 3 15470 and 55973. */
    private static void idsDecideAtLast() {
        due("7 ahead of 6: 6 stands", powerThatStands(9, 9), 6);
        due("7 ahead of 6: 6 stands", topicThatStands(9, 9), 6);
        due("7 ahead of 6: 6 stands", topicThatStands(MOST, MOST), 6);
        RoomFederation x = begun();
        due("2", x.forge(0, TOPIC, 0, 0, 3, 1, -1), 2);
        due("3", x.forge(0, TOPIC, 0, 0, 3, 1, -1), 3);
        due("2 ahead of 3: 3 stands", x.state(0, TOPIC, 0), 3);
        due("4", x.forge(0, TOPIC, 1, 0, 3, 1, -1), 4);
        due("5", x.forge(0, TOPIC, 1, 0, 3, 1, -1), 5);
        due("5 ahead of 4: 4 stands", x.state(0, TOPIC, 1), 4);
    }

    // ---- "if none is: beyond all"

    private static void beyondAll() {
        RoomFederation x = levelled(100, 0);
        due("by no POWER, as late as can be", x.forge(0, TOPIC, 0, 0, MOST, 3, -1), 6);
        due("by no POWER", x.before(6, POWER, 0), NONE);
        due("by the mainline's last POWER, as early as can be", x.forge(0, TOPIC, 0, 0, LEAST, 4, -1), 7);
        due("what is beyond all is tried ahead", x.state(0, TOPIC, 0), 7);
        due("by the mainline's first POWER", x.forge(0, TOPIC, 0, 0, LEAST, 5, -1), 8);
        due("the first of the mainline is tried last", x.state(0, TOPIC, 0), 8);
        due("two beyond all: the later", x.forge(0, TOPIC, 1, 0, 8, 3, -1), 9);
        due("two beyond all: the earlier", x.forge(0, TOPIC, 1, 0, 7, 3, -1), 10);
        due("two beyond all are of one place", x.state(0, TOPIC, 1), 9);
    }

    /** Without a POWER in the state there is no mainline: all are beyond it. */
    private static void beyondAllWithoutMainline() {
        RoomFederation x = begun();
        due("late", x.forge(0, TOPIC, 0, 0, MOST, 1, -1), 2);
        due("early", x.forge(0, TOPIC, 0, 0, LEAST, 1, -1), 3);
        due("no POWER", x.state(0, POWER, 0), NONE);
        due("the later", x.state(0, TOPIC, 0), 2);
    }

    // ---- "RESOLVED of states, one or more", "nothing without parents", "nothing without any"

    private static void oneStateIsItself() {
        RoomFederation x = peopled();
        due("one head", x.count(0, 2), 1);
        due("its state", x.count(0, 3), 5);
        due("one parent", x.forge(0, MESSAGE, 0, 0, 6, 4, 4), 5);
        for (int kind = CREATE; kind <= TOPIC; kind++) {
            for (int key = 0; key < 12; key++) {
                due("kind " + kind + " key " + key, x.before(5, kind, key), x.state(0, kind, key));
            }
        }
    }

    /** A state with nothing agrees with none: all is tried anew, by authorities where there is nothing. */
    private static void nothingBesideAState() {
        RoomFederation x = peopled();
        due("behind nothing", x.forge(8, MESSAGE, 0, 0, LEAST, -1, -1), 5);
        due("the state is as it was", x.count(0, 3), 5);
        int[] members = {1, NONE, NONE, NONE, 2, NONE, NONE, NONE, 3, NONE, NONE, NONE};
        for (int u = 0; u < 12; u++) {
            due("MEMBER " + u, x.state(0, MEMBER, u), members[u]);
        }
        due("CREATE", x.state(0, CREATE, 0), 0);
        due("POWER", x.state(0, POWER, 0), 4);
        due("two behind nothing", x.forge(1, MESSAGE, 0, 0, 0, -1, -1), 6);
        due("two behind nothing", x.forge(1, MESSAGE, 0, 0, 0, -1, -1), 7);
        due("have nothing", x.count(1, 3), 0);
        due("but two heads", x.count(1, 2), 2);
    }

    /** "an event is tried by R, and where R has nothing by its authorities" */
    private static void authoritiesWhereThereIsNothing() {
        RoomFederation x = new RoomFederation();
        due("the CREATE is tried last", x.send(0, CREATE, 0, 0, MOST), 0);
        due("the join ahead of it", x.send(0, MEMBER, 0, JOINED, 9), 1);
        due("the topic first", x.send(0, TOPIC, 7, 0, LEAST), 2);
        due("behind nothing", x.forge(0, MESSAGE, 0, 0, 0, -1, -1), 3);
        due("CREATE", x.state(0, CREATE, 0), 0);
        due("MEMBER", x.state(0, MEMBER, 0), 1);
        due("TOPIC", x.state(0, TOPIC, 7), 2);
        due("no more", x.count(0, 3), 3);
    }

    private static void serverWithoutHeads() {
        RoomFederation x = begun();
        due("what is held", x.deliver(1, 1), HELD);
        due("is no head", x.head(1, 0), NONE);
        due("is no head", x.count(1, 2), 0);
        due("is in no state", x.count(1, 3), 0);
        due("is in no state", x.state(1, MEMBER, 0), NONE);
        due("gives no level", x.level(1, 0), 0);
        due("is no parent: a CREATE may be sent", x.send(1, CREATE, 0, 0, 0), 2);
        due("without parents", x.look(2, 4), 0);
        due("it is the head then", x.head(1, 0), 2);
        due("and the other is held still", x.knows(1, 1), 2);
    }

    private static void manyHeads() {
        RoomFederation x = begun();
        for (int i = 2; i < 200; i++) {
            due("beside", x.forge(0, i % 2 == 0 ? TOPIC : MESSAGE, i % 8, 0, i, 1, -1), i);
        }
        due("heads", x.count(0, 2), 198);
        due("the first", x.head(0, 0), 2);
        due("the last", x.head(0, 197), 199);
        due("no more", x.head(0, 198), NONE);
        due("the latest TOPICs", x.state(0, TOPIC, 0), 192);
        due("the latest TOPICs", x.state(0, TOPIC, 6), 198);
        due("4 of them are parents", x.send(0, MESSAGE, 0, 0, 0), 200);
        due("4 of them are parents", x.look(200, 4), 4);
        due("heads then", x.count(0, 2), 195);
        due("all come", x.sync(0, 2), 201);
        due("heads there", x.count(2, 2), 195);
    }

    // ---- "It HOLDS, at most 32, those that came before their parents"

    /** "when an event is known that one waits for, it is known, too, ... as long as there is one" */
    private static void heldWaitInLine() {
        RoomFederation x = lengthy(34);
        for (int e = 33; e > 1; e--) {
            due("held " + e, x.deliver(3, e), HELD);
        }
        due("32 are held", x.count(3, 1), 32);
        due("no more", x.deliver(3, 1), FULL);
        due("the first one comes, and none waits for it", x.deliver(3, 0), 1);
        due("32 are held still", x.count(3, 1), 32);
        due("the one that all wait for", x.deliver(3, 1), 33);
        due("none is held", x.count(3, 1), 0);
        due("all are known", x.count(3, 0), 34);
        due("one head", x.count(3, 2), 1);
        due("the last", x.head(3, 0), 33);
    }

    private static void heldComeOnlyWithAllParents() {
        RoomFederation x = begun();
        for (int i = 0; i < 4; i++) {
            due("four beside", x.forge(0, MESSAGE, 0, 0, 3, 1, -1), 2 + i);
        }
        due("behind all four", x.send(0, MESSAGE, 0, 0, 4), 6);
        due("has four parents", x.look(6, 4), 4);
        due("held", x.deliver(1, 6), HELD);
        due("one", x.deliver(1, 0), 1);
        due("one", x.deliver(1, 1), 1);
        due("one", x.deliver(1, 5), 1);
        due("one", x.deliver(1, 2), 1);
        due("one", x.deliver(1, 4), 1);
        due("held still", x.knows(1, 6), 2);
        due("the last parent, and it", x.deliver(1, 3), 2);
        due("none is held", x.count(1, 1), 0);
    }

    // ---- "An object is used for at most 512 calls after it has been made"

    private static void callsUpTo512() {
        RoomFederation x = lengthy(400);
        for (int call = 401; call < 512; call++) {
            due("call " + call, x.send(0, MESSAGE, 0, 0, 0), FULL);
        }
        due("call 512", x.events(), 400);
    }

    /** Two branches that are far apart flow together; then all comes to the others, one by one. */
    private static void forgingUpTo512() {
        RoomFederation x = begun();
        int one = 1;
        int two = 1;
        for (int call = 3; call < 399; call += 2) {
            one = x.forge(0, POWER, call % 12, call % 40, call, one, -1);
            due("call " + call, one, call - 1);
            two = x.forge(0, POWER, call % 12, call % 50, -call, two, -1);
            due("call " + (call + 1), two, call);
        }
        due("call 399", x.state(0, CREATE, 0), 0);
        for (int call = 400; call < 510; call++) {
            due("call " + call, x.deliver(1 + call % 3, (call - 400) / 3), 1);
        }
        due("call 510", x.events(), 398);
        due("call 511", x.sync(0, 1), 398 - 36);
        due("call 512", x.count(1, 0), 398);
    }
}
