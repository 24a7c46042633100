/**
 * Every sentence of a promise that names REFUSED, NONE, FULL, DENIED, KNOWN, HELD or 1000, or an order
 * of them: the last number inside the bound, the first one outside it, and calls that several fit.
 */
public final class AnswersTest extends Rooms {
    private static final int[] NO_SERVERS = {LEAST, -4, -1, 4, 5, MOST};
    private static final int[] NO_USERS = {LEAST, -1, 12, 15, MOST};

    public static void main(String[] args) {
        newObjectHasNothing();
        sendRefusesOtherUsers();
        sendRefusesOtherKinds();
        sendRefusesMemberOfNoUser();
        sendRefusesPowerOfNoUser();
        sendRefusesPowerOfOtherLevel();
        sendRefusesOtherTopic();
        sendRefusesNothingElse();
        sendDenied();
        sendRefusedAheadOfDenied();
        sendFull();
        forgeRefused();
        forgeTakesWhatSendDenies();
        forgeNone();
        forgeNoneOfUnknownParents();
        forgeSameParentTwice();
        forgeRefusedAheadOfNone();
        forgeFull();
        deliverRefused();
        deliverNone();
        deliverKnown();
        deliverHeld();
        deliverFull();
        deliverWithoutHolding();
        syncRefused();
        syncWithItself();
        syncOfNothing();
        stateRefused();
        stateNone();
        beforeRefused();
        beforeNone();
        beforeRefusedFirst();
        lookRefused();
        lookNone();
        lookRefusedFirst();
        levelOfNobody();
        knowsRefused();
        knowsNone();
        headRefused();
        headNone();
        countRefused();
        eventsCountsWhatWasMade();
        refusedCallsChangeNothing();
        fullRoomStaysAsItIs();
        Check.end();
    }

    // ---- Promise 1: "No events."

    private static void newObjectHasNothing() {
        RoomFederation x = new RoomFederation();
        String empty = "0 / 0 0 0 0 -2 -2 -2 -2 0 / 0 0 0 0 -2 -2 -2 -2 0 / 0 0 0 0 -2 -2 -2 -2 0"
            + " / 0 0 0 0 -2 -2 -2 -2 0";
        same("a new object", picture(x), empty);
        for (int s = 0; s < 4; s++) {
            due("no event 0 comes", x.deliver(s, 0), NONE);
            due("no event 0 is known", x.knows(s, 0), 0);
            due("nothing to sync", x.sync(s, 3 - s), 0);
            due("no parent 0", x.forge(s, MESSAGE, 0, 0, 0, 0, -1), NONE);
        }
        due("nothing before event 0", x.before(0, CREATE, 0), NONE);
        due("no look at event 0", x.look(0, 0), NONE);
        same("asking made nothing", picture(x), empty);
    }

    // ---- Promise 2: "REFUSED if user is not 0 to 11, kind not 0 to 5, ..."

    private static void sendRefusesOtherUsers() {
        RoomFederation x = new RoomFederation();
        for (int u : NO_USERS) {
            due("send of user " + u, x.send(u, CREATE, 0, 0, 0), REFUSED);
        }
        due("no event was made", x.events(), 0);
        due("user 0 sends", x.send(0, CREATE, 0, 0, 0), 0);
        due("user 11 sends", x.send(11, CREATE, 0, 0, 0), 1);
        due("user 11 was the sender", x.look(1, 0), 11);
    }

    private static void sendRefusesOtherKinds() {
        RoomFederation x = new RoomFederation();
        int[] none = {LEAST, -1, 6, 7, MOST};
        for (int kind : none) {
            due("send of kind " + kind, x.send(0, kind, 0, 0, 0), REFUSED);
        }
        due("kind 0", x.send(0, CREATE, 0, 0, 0), 0);
        due("kind 1", x.send(0, MEMBER, 0, JOINED, 0), 1);
        due("kind 2", x.send(0, POWER, 0, 100, 0), 2);
        due("kind 3", x.send(0, RULE, 0, 0, 0), 3);
        due("kind 4", x.send(0, TOPIC, 0, 0, 0), 4);
        due("kind 5", x.send(0, MESSAGE, 0, 0, 0), 5);
        for (int kind : none) {
            due("send of kind " + kind + " in a room", x.send(0, kind, 0, 0, 0), REFUSED);
        }
        for (int e = 0; e < 6; e++) {
            due("kind of event " + e, x.look(e, 1), e);
        }
    }

    private static void sendRefusesMemberOfNoUser() {
        RoomFederation x = begun();
        for (int u : NO_USERS) {
            for (int b = OUT; b <= BANNED; b++) {
                due("MEMBER of " + u + " B " + b, x.send(0, MEMBER, u, b, 3), REFUSED);
            }
        }
        due("MEMBER of 0", x.send(0, MEMBER, 0, JOINED, 3), 2);
        due("MEMBER of 11", x.send(0, MEMBER, 11, INVITED, 3), 3);
        due("in its place", x.state(0, MEMBER, 11), 3);
    }

    private static void sendRefusesPowerOfNoUser() {
        RoomFederation x = begun();
        for (int u : NO_USERS) {
            due("POWER of " + u, x.send(0, POWER, u, 0, 3), REFUSED);
        }
        due("POWER of 11", x.send(0, POWER, 11, 7, 3), 2);
        due("level of 11", x.level(0, 11), 7);
        due("POWER of 0", x.send(0, POWER, 0, 70, 3), 3);
        due("level of 0", x.level(0, 0), 70);
    }

    private static void sendRefusesPowerOfOtherLevel() {
        RoomFederation x = begun();
        int[] none = {LEAST, -101, 101, 1000, MOST};
        for (int b : none) {
            due("POWER of level " + b, x.send(0, POWER, 4, b, 3), REFUSED);
        }
        due("POWER of level -100", x.send(0, POWER, 4, -100, 3), 2);
        due("level -100", x.level(0, 4), -100);
        due("POWER of level 100", x.send(0, POWER, 4, 100, 3), 3);
        due("level 100", x.level(0, 4), 100);
    }

    private static void sendRefusesOtherTopic() {
        RoomFederation x = begun();
        int[] none = {LEAST, -1, 8, 11, MOST};
        for (int a : none) {
            due("TOPIC " + a, x.send(0, TOPIC, a, 0, 3), REFUSED);
        }
        due("TOPIC 0", x.send(0, TOPIC, 0, 0, 3), 2);
        due("TOPIC 7", x.send(0, TOPIC, 7, 0, 3), 3);
        due("in its place", x.state(0, TOPIC, 0), 2);
        due("in its place", x.state(0, TOPIC, 7), 3);
    }

    /** What no word refuses is sent, or DENIED by the state. */
    private static void sendRefusesNothingElse() {
        RoomFederation x = new RoomFederation();
        due("CREATE with any A, B, TIME", x.send(0, CREATE, LEAST, MOST, LEAST), 0);
        due("MEMBER of B 4 is denied", x.send(0, MEMBER, 0, 4, 0), DENIED);
        due("MEMBER of B -1 is denied", x.send(0, MEMBER, 0, -1, 0), DENIED);
        due("MEMBER of any B is denied", x.send(0, MEMBER, 0, MOST, 0), DENIED);
        due("join at any TIME", x.send(0, MEMBER, 0, JOINED, MOST), 1);
        due("RULE with any A", x.send(0, RULE, LEAST, 0, 0), 2);
        due("RULE of B 2 is denied", x.send(0, RULE, 0, 2, 0), DENIED);
        due("RULE of B -1 is denied", x.send(0, RULE, 0, -1, 0), DENIED);
        due("TOPIC with any B", x.send(0, TOPIC, 0, LEAST, 0), 3);
        due("MESSAGE with any A, B, TIME", x.send(0, MESSAGE, -1, MOST, LEAST), 4);
        due("A of it", x.look(4, 2), -1);
        due("B of it", x.look(4, 3), MOST);
    }

    /** "DENIED if that state does not allow it; else it is known there: its number." */
    private static void sendDenied() {
        RoomFederation x = peopled();
        String was = picture(x);
        due("CREATE with parents", x.send(0, CREATE, 0, 0, 6), DENIED);
        due("MEMBER", x.send(8, MEMBER, 4, BANNED, 6), DENIED);
        due("POWER", x.send(8, POWER, 8, 1, 6), DENIED);
        due("RULE", x.send(8, RULE, 0, 1, 6), DENIED);
        due("TOPIC", x.send(8, TOPIC, 0, 0, 6), DENIED);
        due("MESSAGE", x.send(1, MESSAGE, 0, 0, 6), DENIED);
        same("denied calls change nothing", picture(x), was);
        due("what is allowed has the next number", x.send(8, MESSAGE, 0, 0, 6), 5);
        due("and is known there", x.knows(0, 5), 1);
        due("and nowhere else", x.knows(1, 5) + x.knows(2, 5) + x.knows(3, 5), 0);
    }

    private static void sendRefusedAheadOfDenied() {
        RoomFederation x = begun();
        due("TOPIC 8 of one who is out", x.send(4, TOPIC, 8, 0, 3), REFUSED);
        due("TOPIC 7 of one who is out", x.send(4, TOPIC, 7, 0, 3), DENIED);
        due("POWER 101 of one who is out", x.send(4, POWER, 4, 101, 3), REFUSED);
        due("POWER 100 of one who is out", x.send(4, POWER, 4, 100, 3), DENIED);
        due("MEMBER 12 of one who is out", x.send(4, MEMBER, 12, INVITED, 3), REFUSED);
        due("MEMBER 11 of one who is out", x.send(4, MEMBER, 11, INVITED, 3), DENIED);
        due("kind 6 of one who is out", x.send(4, 6, 0, 0, 3), REFUSED);
        due("kind 5 of one who is out", x.send(4, 5, 0, 0, 3), DENIED);
    }

    /** "FULL with 400 (behind REFUSED, ahead of DENIED)." */
    private static void sendFull() {
        RoomFederation x = lengthy(399);
        due("with 399 what is not allowed is denied", x.send(4, MESSAGE, 0, 0, 0), DENIED);
        due("with 399 one more is made", x.send(0, MESSAGE, 0, 0, 0), 399);
        due("with 400 no more", x.send(0, MESSAGE, 0, 0, 0), FULL);
        due("FULL ahead of DENIED", x.send(4, TOPIC, 7, 0, 0), FULL);
        due("FULL ahead of DENIED for CREATE", x.send(0, CREATE, 0, 0, 0), FULL);
        due("FULL at a server that knows nothing", x.send(1, CREATE, 0, 0, 0), FULL);
        due("REFUSED ahead of FULL: user", x.send(12, MESSAGE, 0, 0, 0), REFUSED);
        due("REFUSED ahead of FULL: kind", x.send(0, 6, 0, 0, 0), REFUSED);
        due("REFUSED ahead of FULL: MEMBER", x.send(0, MEMBER, 12, INVITED, 0), REFUSED);
        due("REFUSED ahead of FULL: POWER", x.send(0, POWER, 0, -101, 0), REFUSED);
        due("REFUSED ahead of FULL and DENIED", x.send(4, TOPIC, 8, 0, 0), REFUSED);
        due("400 there are", x.events(), 400);
    }

    // ---- Promise 3: "Likewise, but with parents one and two (none for -1)"

    private static void forgeRefused() {
        RoomFederation x = begun();
        for (int u : NO_USERS) {
            due("forge of user " + u, x.forge(u, MESSAGE, 0, 0, 3, 1, -1), REFUSED);
            due("forge MEMBER of " + u, x.forge(0, MEMBER, u, INVITED, 3, 1, -1), REFUSED);
            due("forge POWER of " + u, x.forge(0, POWER, u, 0, 3, 1, -1), REFUSED);
        }
        due("kind -1", x.forge(0, -1, 0, 0, 3, 1, -1), REFUSED);
        due("kind 6", x.forge(0, 6, 0, 0, 3, 1, -1), REFUSED);
        due("POWER -101", x.forge(0, POWER, 4, -101, 3, 1, -1), REFUSED);
        due("POWER 101", x.forge(0, POWER, 4, 101, 3, 1, -1), REFUSED);
        due("TOPIC -1", x.forge(0, TOPIC, -1, 0, 3, 1, -1), REFUSED);
        due("TOPIC 8", x.forge(0, TOPIC, 8, 0, 3, 1, -1), REFUSED);
        due("nothing was made", x.events(), 2);
        due("kind 0", x.forge(0, CREATE, 0, 0, 3, -1, -1), 2);
        due("kind 5", x.forge(0, MESSAGE, 0, 0, 3, 1, -1), 3);
        due("POWER -100", x.forge(0, POWER, 11, -100, 3, 1, -1), 4);
        due("POWER 100", x.forge(0, POWER, 0, 100, 3, 1, -1), 5);
        due("TOPIC 7", x.forge(0, TOPIC, 7, 0, 3, 1, -1), 6);
        due("TOPIC 0", x.forge(0, TOPIC, 0, 0, 3, 1, -1), 7);
        due("user 11", x.forge(11, MEMBER, 11, JOINED, 3, -1, -1), 8);
    }

    /** "whatever allows it or not" */
    private static void forgeTakesWhatSendDenies() {
        RoomFederation x = peopled();
        due("CREATE with a parent", x.forge(0, CREATE, 0, 0, 6, 4, -1), 5);
        due("MEMBER B 4", x.forge(0, MEMBER, 0, 4, 6, 4, -1), 6);
        due("MEMBER B -1", x.forge(0, MEMBER, 0, -1, 6, 4, -1), 7);
        due("POWER", x.forge(8, POWER, 8, 100, 6, 4, -1), 8);
        due("RULE B 2", x.forge(0, RULE, 0, 2, 6, 4, -1), 9);
        due("TOPIC", x.forge(8, TOPIC, 0, 0, 6, 4, -1), 10);
        due("MESSAGE without parents", x.forge(1, MESSAGE, 0, 0, 6, -1, -1), 11);
        for (int e = 5; e < 12; e++) {
            due("is known at its server " + e, x.knows(e == 11 ? 1 : 0, e), 1);
            due("is not good " + e, x.look(e, 6), 0);
        }
    }

    /** "NONE (behind REFUSED, ahead of FULL) if a parent is not known there, or is below -1." */
    private static void forgeNone() {
        RoomFederation x = begun();
        int[] none = {LEAST, -401, -3, -2, 2, 3, 399, 400, 448, MOST};
        for (int p : none) {
            due("one " + p, x.forge(0, MESSAGE, 0, 0, 3, p, -1), NONE);
            due("two " + p, x.forge(0, MESSAGE, 0, 0, 3, -1, p), NONE);
            due("one " + p + " beside a known", x.forge(0, MESSAGE, 0, 0, 3, p, 1), NONE);
            due("two " + p + " beside a known", x.forge(0, MESSAGE, 0, 0, 3, 0, p), NONE);
            due("both " + p, x.forge(0, MESSAGE, 0, 0, 3, p, p), NONE);
        }
        due("nothing was made", x.events(), 2);
        due("parent 0", x.forge(0, MESSAGE, 0, 0, 3, 0, -1), 2);
        due("the last one", x.forge(0, MESSAGE, 0, 0, 3, -1, 2), 3);
        due("-1 and -1", x.forge(0, MESSAGE, 0, 0, 3, -1, -1), 4);
        due("parents of 2", x.look(2, 4), 1);
        due("parents of 3", x.look(3, 4), 1);
        due("parents of 4", x.look(4, 4), 0);
    }

    private static void forgeNoneOfUnknownParents() {
        RoomFederation x = begun();
        due("known at another server alone", x.forge(1, MESSAGE, 0, 0, 3, 0, -1), NONE);
        due("event 1 is held at server 1", x.deliver(1, 1), HELD);
        due("held is not known", x.forge(1, MESSAGE, 0, 0, 3, 1, -1), NONE);
        due("held is not known, as two", x.forge(1, MESSAGE, 0, 0, 3, -1, 1), NONE);
        due("both come", x.deliver(1, 0), 2);
        due("known", x.forge(1, MESSAGE, 0, 0, 3, 1, -1), 2);
        due("what user 1 made is not known at 0's server", x.forge(0, MESSAGE, 0, 0, 3, 2, 1), NONE);
        due("but at user 5's", x.forge(5, MESSAGE, 0, 0, 3, 2, 0), 3);
    }

    /** "(one and two may be the same: that is one parent.)" */
    private static void forgeSameParentTwice() {
        RoomFederation x = begun();
        due("1 and 1", x.forge(0, MESSAGE, 0, 0, 3, 1, 1), 2);
        due("is one parent", x.look(2, 4), 1);
        due("0 and 0", x.forge(0, MESSAGE, 0, 0, 3, 0, 0), 3);
        due("is one parent", x.look(3, 4), 1);
        due("2 and 3", x.forge(0, MESSAGE, 0, 0, 3, 2, 3), 4);
        due("are two", x.look(4, 4), 2);
        due("3 and 2", x.forge(0, MESSAGE, 0, 0, 3, 3, 2), 5);
        due("are two", x.look(5, 4), 2);
        due("an ancestor beside", x.forge(0, MESSAGE, 0, 0, 3, 4, 0), 6);
        due("is a parent too", x.look(6, 4), 2);
    }

    private static void forgeRefusedAheadOfNone() {
        RoomFederation x = begun();
        due("user", x.forge(12, MESSAGE, 0, 0, 3, -2, -1), REFUSED);
        due("user -1", x.forge(-1, MESSAGE, 0, 0, 3, 2, -1), REFUSED);
        due("kind", x.forge(0, 6, 0, 0, 3, 2, -1), REFUSED);
        due("MEMBER", x.forge(0, MEMBER, 12, 0, 3, -2, -2), REFUSED);
        due("POWER", x.forge(0, POWER, 0, 101, 3, -1, 2), REFUSED);
        due("TOPIC", x.forge(1, TOPIC, 8, 0, 3, 0, -1), REFUSED);
        due("without it NONE", x.forge(1, TOPIC, 7, 0, 3, 0, -1), NONE);
    }

    /** FULL is the last of three. */
    private static void forgeFull() {
        RoomFederation x = lengthy(399);
        due("with 399 a parent that is not there", x.forge(0, MESSAGE, 0, 0, 0, 399, -1), NONE);
        due("with 399 one more is made", x.forge(0, MESSAGE, 0, 0, 0, 398, 397), 399);
        due("with 400 no more", x.forge(0, MESSAGE, 0, 0, 0, 399, -1), FULL);
        due("with 400 none without parents", x.forge(1, CREATE, 0, 0, 0, -1, -1), FULL);
        due("FULL for what is not allowed", x.forge(4, TOPIC, 0, 0, 0, 399, 0), FULL);
        due("NONE ahead of FULL: no such event", x.forge(0, MESSAGE, 0, 0, 0, 400, -1), NONE);
        due("NONE ahead of FULL: below -1", x.forge(0, MESSAGE, 0, 0, 0, 399, -2), NONE);
        due("NONE ahead of FULL: not known there", x.forge(1, MESSAGE, 0, 0, 0, -1, 0), NONE);
        due("REFUSED ahead of FULL", x.forge(0, TOPIC, 8, 0, 0, 399, -1), REFUSED);
        due("REFUSED ahead of NONE and FULL", x.forge(0, TOPIC, 8, 0, 0, 400, -2), REFUSED);
        due("400 there are", x.events(), 400);
    }

    // ---- Promise 4: "how many are known more there then. REFUSED for another server; NONE if ..."

    private static void deliverRefused() {
        RoomFederation x = begun();
        for (int s : NO_SERVERS) {
            due("server " + s, x.deliver(s, 0), REFUSED);
            due("server " + s + " and no such event", x.deliver(s, 2), REFUSED);
            due("server " + s + " and event -1", x.deliver(s, -1), REFUSED);
        }
        due("server 0", x.deliver(0, 0), KNOWN);
        due("server 3", x.deliver(3, 0), 1);
    }

    private static void deliverNone() {
        RoomFederation x = begun();
        int[] none = {LEAST, -2, -1, 2, 3, 399, 400, MOST};
        for (int e : none) {
            due("event " + e, x.deliver(1, e), NONE);
        }
        due("event 0", x.deliver(1, 0), 1);
        due("the last event", x.deliver(1, 1), 1);
    }

    private static void deliverKnown() {
        RoomFederation x = begun();
        due("known as it was sent there", x.deliver(0, 1), KNOWN);
        due("an ancestor of a head", x.deliver(0, 0), KNOWN);
        due("one more", x.deliver(1, 0), 1);
        due("known as it came", x.deliver(1, 0), KNOWN);
        due("known once", x.count(1, 0), 1);
        due("what was held and is known then: held", x.deliver(2, 1), HELD);
        due("what was held and is known then: both", x.deliver(2, 0), 2);
        due("what was held and is known then", x.deliver(2, 1), KNOWN);
    }

    /** "HELD if it is held from now on, or was" */
    private static void deliverHeld() {
        RoomFederation x = lengthy(3);
        due("held from now on", x.deliver(1, 2), HELD);
        due("held", x.knows(1, 2), 2);
        due("one is held", x.count(1, 1), 1);
        due("or was", x.deliver(1, 2), HELD);
        due("once", x.count(1, 1), 1);
        due("none is known", x.count(1, 0), 0);
    }

    /** "FULL if it would be held, and 32 are." */
    private static void deliverFull() {
        RoomFederation x = lengthy(40);
        for (int e = 2; e < 33; e++) {
            due("held " + e, x.deliver(1, e), HELD);
        }
        due("31 are held", x.count(1, 1), 31);
        due("the 32nd", x.deliver(1, 39), HELD);
        due("32 are held", x.count(1, 1), 32);
        due("the 33rd", x.deliver(1, 33), FULL);
        due("is not held", x.knows(1, 33), 0);
        due("32 are held still", x.count(1, 1), 32);
        due("REFUSED all the same", x.deliver(4, 33), REFUSED);
        due("NONE all the same", x.deliver(1, 40), NONE);
        due("HELD all the same", x.deliver(1, 39), HELD);
        due("another server's 32 are its own", x.deliver(2, 33), HELD);
        due("what need not be held comes", x.deliver(1, 0), 1);
        due("KNOWN all the same", x.deliver(1, 0), KNOWN);
        due("FULL still", x.deliver(1, 33), FULL);
        due("1, and 2 to 32 that waited", x.deliver(1, 1), 32);
        due("39 is held still", x.count(1, 1), 1);
        due("there is room again", x.deliver(1, 38), HELD);
        due("33 need not be held now", x.deliver(1, 33), 1);
    }

    /** An event without parents waits for none; nor does one whose parents are all known. */
    private static void deliverWithoutHolding() {
        RoomFederation x = begun();
        due("no parents", x.forge(0, MESSAGE, 0, 0, 3, -1, -1), 2);
        due("two parents", x.forge(0, MESSAGE, 0, 0, 3, 1, 2), 3);
        due("no parents", x.deliver(3, 2), 1);
        due("one of two parents is known", x.deliver(3, 3), HELD);
        due("no parents", x.deliver(3, 0), 1);
        due("the other one, and what waited", x.deliver(3, 1), 2);
    }

    // ---- Promise 5: "REFUSED for other servers (from and to may be the same: 0)."

    private static void syncRefused() {
        RoomFederation x = begun();
        for (int s : NO_SERVERS) {
            due("from " + s, x.sync(s, 1), REFUSED);
            due("to " + s, x.sync(0, s), REFUSED);
            due("both " + s, x.sync(s, s), REFUSED);
        }
        due("from 0 to 3", x.sync(0, 3), 2);
        due("from 3 to 2", x.sync(3, 2), 2);
        due("nothing else", x.count(1, 0), 0);
    }

    private static void syncWithItself() {
        RoomFederation x = begun();
        for (int s = 0; s < 4; s++) {
            due("with itself", x.sync(s, s), 0);
        }
        due("what is held stays so", x.deliver(1, 1), HELD);
        due("with itself", x.sync(1, 1), 0);
        due("what is held stays so", x.knows(1, 1), 2);
    }

    private static void syncOfNothing() {
        RoomFederation x = begun();
        due("from one that knows nothing", x.sync(1, 0), 0);
        due("from one that knows nothing to another", x.sync(1, 2), 0);
        due("what is held does not come", x.deliver(1, 1), HELD);
        due("what is held does not come", x.sync(1, 2), 0);
        due("what is held does not come", x.count(2, 1), 0);
        due("what was held counts", x.sync(0, 1), 2);
        due("what is known comes no more", x.sync(0, 1), 0);
    }

    // ---- Promise 6: "of a kind (0 to 4) and key (0 to 11). REFUSED for other numbers; NONE if ..."

    private static void stateRefused() {
        RoomFederation x = begun();
        for (int s : NO_SERVERS) {
            due("server " + s, x.state(s, CREATE, 0), REFUSED);
        }
        int[] noKinds = {LEAST, -1, 5, 6, MOST};
        for (int kind : noKinds) {
            due("kind " + kind, x.state(0, kind, 0), REFUSED);
        }
        for (int key : NO_USERS) {
            for (int kind = CREATE; kind <= TOPIC; kind++) {
                due("kind " + kind + " key " + key, x.state(0, kind, key), REFUSED);
            }
        }
        due("server 0, kind 0, key 0", x.state(0, 0, 0), 0);
        due("server 3, kind 4, key 11", x.state(3, 4, 11), NONE);
    }

    private static void stateNone() {
        RoomFederation x = peopled();
        for (int key = 1; key < 12; key++) {
            due("CREATE of key " + key, x.state(0, CREATE, key), NONE);
            due("POWER of key " + key, x.state(0, POWER, key), NONE);
            due("RULE of key " + key, x.state(0, RULE, key), NONE);
            due("TOPIC of key " + key, x.state(0, TOPIC, key), NONE);
            due("MEMBER of key " + key, x.state(0, MEMBER, key), key == 4 ? 2 : key == 8 ? 3 : NONE);
            due("MEMBER at a server that knows nothing", x.state(3, MEMBER, key), NONE);
        }
        due("RULE", x.state(0, RULE, 0), NONE);
        due("RULE is sent", x.send(0, RULE, 5, 1, 6), 5);
        due("its key is 0, not A", x.state(0, RULE, 0), 5);
        due("its key is 0, not A", x.state(0, RULE, 5), NONE);
        due("POWER's key is 0, not A", x.state(0, POWER, 0), 4);
    }

    // ---- Promise 7: "REFUSED for another kind or key, first; NONE if there is none, or no such event."

    private static void beforeRefused() {
        RoomFederation x = peopled();
        int[] noKinds = {LEAST, -1, 5, 6, MOST};
        for (int kind : noKinds) {
            due("kind " + kind, x.before(4, kind, 0), REFUSED);
        }
        for (int key : NO_USERS) {
            for (int kind = CREATE; kind <= TOPIC; kind++) {
                due("kind " + kind + " key " + key, x.before(4, kind, key), REFUSED);
            }
        }
        due("kind 0, key 0", x.before(4, 0, 0), 0);
        due("kind 4, key 11", x.before(4, 4, 11), NONE);
    }

    private static void beforeNone() {
        RoomFederation x = peopled();
        int[] noEvents = {LEAST, -2, -1, 5, 6, 399, 400, MOST};
        for (int e : noEvents) {
            due("event " + e, x.before(e, CREATE, 0), NONE);
        }
        for (int kind = CREATE; kind <= TOPIC; kind++) {
            due("nothing is before event 0, kind " + kind, x.before(0, kind, 0), NONE);
        }
        due("the last event", x.before(4, CREATE, 0), 0);
        due("event 1", x.before(1, CREATE, 0), 0);
        due("no MEMBER of 11", x.before(4, MEMBER, 11), NONE);
        due("no POWER", x.before(4, POWER, 0), NONE);
        due("CREATE of another key", x.before(4, CREATE, 1), NONE);
        due("TOPIC of key 8", x.before(4, TOPIC, 8), NONE);
        due("MEMBER of 8", x.before(4, MEMBER, 8), 3);
    }

    private static void beforeRefusedFirst() {
        RoomFederation x = begun();
        due("no such event, kind 5", x.before(2, 5, 0), REFUSED);
        due("no such event, kind -1", x.before(-1, -1, 0), REFUSED);
        due("no such event, key 12", x.before(2, 0, 12), REFUSED);
        due("no such event, key -1", x.before(-1, 0, -1), REFUSED);
        due("no such event, kind and key", x.before(MOST, 5, 12), REFUSED);
        due("without it NONE", x.before(2, 4, 11), NONE);
    }

    // ---- Promise 8: "NONE if there is none; REFUSED for another what, first."

    private static void lookRefused() {
        RoomFederation x = begun();
        int[] none = {LEAST, -1, 8, 9, MOST};
        for (int what : none) {
            due("what " + what, x.look(1, what), REFUSED);
        }
        due("what 0", x.look(1, 0), 0);
        due("what 7", x.look(1, 7), 40503);
    }

    private static void lookNone() {
        RoomFederation x = begun();
        int[] none = {LEAST, -1, 2, 3, 399, 400, MOST};
        for (int e : none) {
            for (int what = 0; what < 8; what++) {
                due("event " + e + " what " + what, x.look(e, what), NONE);
            }
        }
        due("event 0", x.look(0, 1), CREATE);
        due("the last event", x.look(1, 1), MEMBER);
    }

    private static void lookRefusedFirst() {
        RoomFederation x = begun();
        due("no such event, what 8", x.look(2, 8), REFUSED);
        due("no such event, what -1", x.look(-1, -1), REFUSED);
        due("without it NONE", x.look(2, 7), NONE);
    }

    // ---- Promise 9: "1000 if there is no such server or user."

    private static void levelOfNobody() {
        RoomFederation x = begun();
        for (int s : NO_SERVERS) {
            due("server " + s, x.level(s, 0), 1000);
            due("neither server " + s + " nor user", x.level(s, 12), 1000);
        }
        for (int u : NO_USERS) {
            due("user " + u, x.level(0, u), 1000);
            due("user " + u + " at a server that knows nothing", x.level(3, u), 1000);
        }
        due("server 0, user 0", x.level(0, 0), 100);
        due("server 0, user 11", x.level(0, 11), 0);
        due("server 3, user 0", x.level(3, 0), 0);
        due("server 3, user 11", x.level(3, 11), 0);
    }

    // ---- Promise 10: "else 0 (also if there is none such). REFUSED for another server."

    private static void knowsRefused() {
        RoomFederation x = begun();
        for (int s : NO_SERVERS) {
            due("server " + s, x.knows(s, 0), REFUSED);
            due("server " + s + ", no such event", x.knows(s, 2), REFUSED);
        }
        due("server 0", x.knows(0, 0), 1);
        due("server 3", x.knows(3, 0), 0);
    }

    private static void knowsNone() {
        RoomFederation x = begun();
        int[] none = {LEAST, -64, -1, 2, 63, 64, 399, 400, 447, 448, MOST};
        for (int e : none) {
            due("event " + e, x.knows(0, e), 0);
        }
        due("the last event", x.knows(0, 1), 1);
        due("not known and not held", x.knows(1, 1), 0);
        due("held", x.deliver(1, 1), HELD);
        due("held", x.knows(1, 1), 2);
        due("what is held is not known elsewhere", x.knows(2, 1), 0);
    }

    // ---- Promise 11: "Head k, from 0, of a server, by numbers. REFUSED for another server; NONE if ..."

    private static void headRefused() {
        RoomFederation x = begun();
        for (int s : NO_SERVERS) {
            due("server " + s, x.head(s, 0), REFUSED);
            due("server " + s + ", no such head", x.head(s, 1), REFUSED);
            due("server " + s + ", head -1", x.head(s, -1), REFUSED);
        }
        due("server 0", x.head(0, 0), 1);
        due("server 3", x.head(3, 0), NONE);
    }

    private static void headNone() {
        RoomFederation x = begun();
        for (int i = 0; i < 5; i++) {
            due("beside", x.forge(0, MESSAGE, 0, 0, 3, 1, -1), 2 + i);
        }
        int[] none = {LEAST, -1, 5, 6, 400, MOST};
        for (int k : none) {
            due("head " + k, x.head(0, k), NONE);
            due("head " + k + " of a server without heads", x.head(1, k), NONE);
        }
        for (int k = 0; k < 5; k++) {
            due("head " + k, x.head(0, k), 2 + k);
        }
    }

    // ---- Promise 12: "REFUSED for others."

    private static void countRefused() {
        RoomFederation x = begun();
        for (int s : NO_SERVERS) {
            for (int what = -1; what < 5; what++) {
                due("server " + s + " what " + what, x.count(s, what), REFUSED);
            }
        }
        int[] none = {LEAST, -1, 4, 5, MOST};
        for (int what : none) {
            due("what " + what, x.count(0, what), REFUSED);
            due("what " + what + " of a server that knows nothing", x.count(3, what), REFUSED);
        }
        due("server 0 what 0", x.count(0, 0), 2);
        due("server 0 what 3", x.count(0, 3), 2);
        due("server 3 what 0", x.count(3, 0), 0);
        due("server 3 what 3", x.count(3, 3), 0);
    }

    // ---- Promise 13: "How many events there are."

    private static void eventsCountsWhatWasMade() {
        RoomFederation x = new RoomFederation();
        due("none", x.events(), 0);
        due("denied", x.send(0, MEMBER, 0, JOINED, 0), DENIED);
        due("none still", x.events(), 0);
        due("one", x.send(0, CREATE, 0, 0, 0), 0);
        due("one", x.events(), 1);
        due("not good", x.forge(3, MESSAGE, 0, 0, 0, -1, -1), 1);
        due("two", x.events(), 2);
        due("what comes to another is no new one", x.sync(0, 1), 1);
        due("two still", x.events(), 2);
    }

    // ---- all promises

    private static void refusedCallsChangeNothing() {
        RoomFederation x = peopled();
        due("one is held", x.deliver(2, 3), HELD);
        due("one is known", x.deliver(2, 0), 1);
        String was = picture(x);
        x.send(12, MESSAGE, 0, 0, 6);
        x.send(0, 6, 0, 0, 6);
        x.send(0, MEMBER, 12, INVITED, 6);
        x.send(0, POWER, 8, 101, 6);
        x.send(0, TOPIC, 8, 0, 6);
        x.forge(0, TOPIC, 8, 0, 6, 4, -1);
        x.forge(0, MESSAGE, 0, 0, 6, 5, -1);
        x.forge(2, MESSAGE, 0, 0, 6, 3, 0);
        x.deliver(4, 0);
        x.deliver(2, 5);
        x.deliver(2, 3);
        x.deliver(2, 0);
        x.sync(0, 4);
        x.sync(-1, 1);
        x.sync(2, 2);
        same("calls that are refused change nothing", picture(x), was);
    }

    private static void fullRoomStaysAsItIs() {
        RoomFederation x = lengthy(400);
        String was = picture(x);
        x.send(0, MESSAGE, 0, 0, 6);
        x.send(4, MEMBER, 4, JOINED, 6);
        x.send(1, CREATE, 0, 0, 6);
        x.forge(4, MEMBER, 4, JOINED, 6, 399, 0);
        same("calls that are FULL change nothing", picture(x), was);
        due("all come to another server", x.sync(0, 1), 400);
        due("the last one is held elsewhere", x.deliver(2, 399), HELD);
    }
}
