/** Promise by promise: ordinary calls, the edges that the document names, and wrong numbers. */
public final class PromisesTest extends Rooms {
    public static void main(String[] args) {
        newObject();
        sendRefusesImproperNumbers();
        sendTakesHeadsAndNeeded();
        sendFillsUp();
        lawOfJoining();
        lawOfInviting();
        lawOfLeavingAndRemoving();
        lawOfBanning();
        lawOfPower();
        lawOfRuleTopicMessage();
        makerEntersRoomByInvitation();
        forge();
        goodness();
        orderOne();
        orderTwo();
        resolving();
        deliver();
        deliverHoldsAtMost();
        sync();
        state();
        before();
        look();
        level();
        knows();
        head();
        count();
        events();
        Check.end();
    }

    private static void newObject() {
        RoomFederation x = new RoomFederation();
        due("new events", x.events(), 0);
        for (int s = 0; s < 4; s++) {
            for (int what = 0; what < 4; what++) {
                due("new count", x.count(s, what), 0);
            }
            due("new head", x.head(s, 0), NONE);
            due("new state", x.state(s, CREATE, 0), NONE);
            due("new level", x.level(s, 0), 0);
            due("new knows", x.knows(s, 0), 0);
            due("new deliver", x.deliver(s, 0), NONE);
        }
        due("new look", x.look(0, 0), NONE);
        due("new before", x.before(0, 0, 0), NONE);
        due("new sync", x.sync(0, 1), 0);
        due("another object's events are its own", begun().events() + x.events(), 2);
    }

    private static void sendRefusesImproperNumbers() {
        RoomFederation x = begun();
        int[] noUsers = {-1, 12, Integer.MIN_VALUE, Integer.MAX_VALUE};
        for (int u : noUsers) {
            due("send user " + u, x.send(u, MESSAGE, 0, 0, 0), REFUSED);
            due("send kind " + (u == 12 ? 6 : u), x.send(0, u == 12 ? 6 : u, 0, 0, 0), REFUSED);
            due("send MEMBER of " + u, x.send(0, MEMBER, u, JOINED, 0), REFUSED);
            due("send POWER of " + u, x.send(0, POWER, u, 0, 0), REFUSED);
            due("send TOPIC " + u, x.send(0, TOPIC, u == 12 ? 8 : u, 0, 0), REFUSED);
        }
        due("send POWER -101", x.send(0, POWER, 1, -101, 0), REFUSED);
        due("send POWER 101", x.send(0, POWER, 1, 101, 0), REFUSED);
        due("send MEMBER B 4 is not refused", x.send(0, MEMBER, 0, 4, 0), DENIED);
        due("send MEMBER B -1 is not refused", x.send(0, MEMBER, 0, -1, 0), DENIED);
        due("nothing was made", x.events(), 2);
        due("send POWER -100", x.send(0, POWER, 1, -100, 0), 2);
        due("send POWER 100", x.send(0, POWER, 1, 100, 0), 3);
        due("send POWER of 11", x.send(0, POWER, 11, 1, 0), 4);
        due("send TOPIC 7", x.send(0, TOPIC, 7, Integer.MIN_VALUE, 0), 5);
        due("send RULE with any A", x.send(0, RULE, -9, 0, 0), 6);
        due("send MESSAGE with any A", x.send(0, MESSAGE, 99, 0, Integer.MIN_VALUE), 7);
        due("user 11 is at server 3", x.send(11, CREATE, 77, 0, 0), 8);
        due("and known there", x.knows(3, 8), 1);
        due("and not elsewhere", x.knows(0, 8), 0);
    }

    private static void sendTakesHeadsAndNeeded() {
        RoomFederation x = peopled();
        due("CREATE has no parents", x.look(0, 4), 0);
        due("CREATE has no authorities", x.look(0, 5), 0);
        due("join of the maker needs CREATE", x.look(1, 5), 1);
        due("POWER needs CREATE, MEMBER", x.look(4, 5), 2);
        due("message", x.send(8, MESSAGE, 0, 0, 6), 5);
        due("needs CREATE, POWER, MEMBER", x.look(5, 5), 3);
        due("rule", x.send(0, RULE, 0, 1, 7), 6);
        due("invite", x.send(8, MEMBER, 1, INVITED, 8), 7);
        due("needs CREATE, POWER, MEMBER of the sender, RULE", x.look(7, 5), 4);
        due("ban", x.send(0, MEMBER, 1, BANNED, 9), 8);
        due("needs that of A too", x.look(8, 5), 5);
        due("rejoin", x.send(8, MEMBER, 8, JOINED, 9), 9);
        due("needs each once", x.look(9, 5), 4);
        for (int i = 0; i < 6; i++) {
            due("six heads", x.forge(0, MESSAGE, 0, 0, 10, 9, -1), 10 + i);
        }
        due("heads", x.count(0, 2), 6);
        due("send with six heads", x.send(0, MESSAGE, 0, 0, 11), 16);
        due("has 4 parents", x.look(16, 4), 4);
        due("the least heads stay", x.head(0, 0), 10);
        due("the least heads stay", x.head(0, 1), 11);
        due("and the new one", x.head(0, 2), 16);
        due("no more", x.head(0, 3), NONE);
        due("send with three heads", x.send(0, MESSAGE, 0, 0, 12), 17);
        due("has 3 parents", x.look(17, 4), 3);
        sendByAllHeadsThoughParentsAreFour();
    }

    /** The state that allows is that of all heads; the one before the event is of its parents alone. */
    private static void sendByAllHeadsThoughParentsAreFour() {
        RoomFederation x = begun();
        due("4 joins", x.forge(4, MEMBER, 4, JOINED, 3, 1, -1), 2);
        for (int i = 0; i < 4; i++) {
            due("later heads", x.forge(0, MESSAGE, 0, 0, 4, 1, -1), 3 + i);
        }
        due("the server's state has 4", x.state(0, MEMBER, 4), 2);
        due("4 may speak", x.send(4, MESSAGE, 0, 0, 5), 7);
        due("by its MEMBER", x.look(7, 5), 2);
        due("that is not before it", x.before(7, MEMBER, 4), NONE);
        due("so it is not good", x.look(7, 6), 0);
        due("but known", x.knows(0, 7), 1);
    }

    private static void sendFillsUp() {
        RoomFederation x = begun();
        for (int i = 2; i < 400; i++) {
            due("send " + i, x.send(0, MESSAGE, 0, 0, i), i);
        }
        due("FULL", x.send(0, MESSAGE, 0, 0, 0), FULL);
        due("FULL ahead of DENIED", x.send(4, MESSAGE, 0, 0, 0), FULL);
        due("FULL behind REFUSED", x.send(12, MESSAGE, 0, 0, 0), REFUSED);
        due("forge FULL", x.forge(0, MESSAGE, 0, 0, 0, 399, -1), FULL);
        due("forge NONE ahead of FULL", x.forge(0, MESSAGE, 0, 0, 0, 400, -1), NONE);
        due("forge REFUSED ahead of NONE", x.forge(0, 6, 0, 0, 0, 400, -1), REFUSED);
        due("events", x.events(), 400);
        due("known", x.count(0, 0), 400);
        due("last ID", x.look(399, 7), 399 * 40503 % 65536);
        due("sync of all", x.sync(0, 3), 400);
        due("deliver the last", x.deliver(1, 399), HELD);
        due("no event 400", x.deliver(1, 400), NONE);
    }

    private static void lawOfJoining() {
        RoomFederation x = new RoomFederation();
        due("no CREATE", x.send(0, MEMBER, 0, JOINED, 0), DENIED);
        x = peopled();
        due("another cannot join for A", x.send(0, MEMBER, 1, JOINED, 6), DENIED);
        due("joined joins again", x.send(8, MEMBER, 8, JOINED, 6), 5);
        due("8 is banned", x.send(0, MEMBER, 8, BANNED, 7), 6);
        due("banned cannot join", x.send(8, MEMBER, 8, JOINED, 8), DENIED);
        due("by invitation", x.send(0, RULE, 0, 1, 9), 7);
        due("joined joins again all the same", x.send(4, MEMBER, 4, JOINED, 9), 8);
        due("sync", x.sync(0, 1), 9);
        due("out cannot join", x.send(1, MEMBER, 1, JOINED, 10), DENIED);
        due("invite", x.send(0, MEMBER, 1, INVITED, 11), 9);
        due("sync", x.sync(0, 1), 1);
        due("invited joins", x.send(1, MEMBER, 1, JOINED, 12), 10);
        due("open again", x.send(0, RULE, 0, 0, 13), 11);
        due("sync", x.sync(0, 1), 1);
        due("out joins an open room", x.send(5, MEMBER, 5, JOINED, 14), 12);
    }

    private static void lawOfInviting() {
        RoomFederation x = peopled();
        due("who is not joined cannot invite", x.send(1, MEMBER, 2, INVITED, 6), DENIED);
        due("sync", x.sync(0, 1), 5);
        due("nor when there is a room", x.send(1, MEMBER, 2, INVITED, 6), DENIED);
        due("level 0 invites", x.send(8, MEMBER, 1, INVITED, 6), 5);
        due("invited again", x.send(8, MEMBER, 1, INVITED, 6), 6);
        due("joined is not invited", x.send(0, MEMBER, 4, INVITED, 6), DENIED);
        due("ban", x.send(0, MEMBER, 2, BANNED, 7), 7);
        due("banned is not invited", x.send(0, MEMBER, 2, INVITED, 8), DENIED);
    }

    private static void lawOfLeavingAndRemoving() {
        RoomFederation x = peopled();
        due("out cannot leave", x.send(1, MEMBER, 1, OUT, 6), DENIED);
        due("8 leaves", x.send(8, MEMBER, 8, OUT, 6), 5);
        due("8 is out", x.send(8, MEMBER, 8, OUT, 6), DENIED);
        due("out is not removed", x.send(0, MEMBER, 8, OUT, 6), DENIED);
        due("8 invited", x.send(4, MEMBER, 8, INVITED, 7), 6);
        due("8 declines", x.send(8, MEMBER, 8, OUT, 7), 7);
        due("8 invited", x.send(4, MEMBER, 8, INVITED, 7), 8);
        due("level 50 removes an invited one", x.send(4, MEMBER, 8, OUT, 8), 9);
        due("8 joins", x.send(8, MEMBER, 8, JOINED, 9), 10);
        due("level 0 removes nobody", x.send(8, MEMBER, 4, OUT, 9), DENIED);
        due("50 does not remove 100", x.send(4, MEMBER, 0, OUT, 9), DENIED);
        due("8 has 50", x.send(0, POWER, 8, 50, 10), 11);
        due("50 does not remove 50", x.send(4, MEMBER, 8, OUT, 11), DENIED);
        due("8 has 49", x.send(0, POWER, 8, 49, 12), 12);
        due("49 does not remove", x.send(8, MEMBER, 4, OUT, 13), DENIED);
        due("4 has 48", x.send(0, POWER, 4, 48, 12), 13);
        due("nor one below", x.send(8, MEMBER, 4, OUT, 13), DENIED);
        due("4 has 51", x.send(0, POWER, 4, 51, 13), 14);
        due("51 removes 49", x.send(4, MEMBER, 8, OUT, 14), 15);
        due("8 banned", x.send(4, MEMBER, 8, BANNED, 15), 16);
        due("banned cannot leave", x.send(8, MEMBER, 8, OUT, 16), DENIED);
        due("ban is lifted", x.send(0, MEMBER, 8, OUT, 16), 17);
        due("4 leaves", x.send(4, MEMBER, 4, OUT, 17), 18);
        due("8 joins", x.send(8, MEMBER, 8, JOINED, 18), 19);
        due("who is out removes nobody", x.send(4, MEMBER, 8, OUT, 19), DENIED);
    }

    private static void lawOfBanning() {
        RoomFederation x = peopled();
        due("level 0 bans nobody", x.send(8, MEMBER, 1, BANNED, 6), DENIED);
        due("50 bans one who is out", x.send(4, MEMBER, 1, BANNED, 6), 5);
        due("50 bans a banned one", x.send(4, MEMBER, 1, BANNED, 6), 6);
        due("50 does not ban 100", x.send(4, MEMBER, 0, BANNED, 6), DENIED);
        due("nobody bans itself", x.send(0, MEMBER, 0, BANNED, 6), DENIED);
        due("50 bans a joined one", x.send(4, MEMBER, 8, BANNED, 6), 7);
        due("8 is silent then", x.send(8, MESSAGE, 0, 0, 7), DENIED);
        due("4 leaves", x.send(4, MEMBER, 4, OUT, 8), 8);
        due("who is out bans nobody", x.send(4, MEMBER, 2, BANNED, 9), DENIED);
    }

    private static void lawOfPower() {
        RoomFederation x = peopled();
        due("level 0 cannot", x.send(8, POWER, 8, 0, 6), DENIED);
        due("50 raises 8 to 50", x.send(4, POWER, 8, 50, 6), 5);
        due("50 does not raise above itself", x.send(4, POWER, 2, 51, 6), DENIED);
        due("50 does not lower 50", x.send(4, POWER, 8, 49, 6), DENIED);
        due("50 does not lower 100", x.send(4, POWER, 0, 0, 6), DENIED);
        due("50 does not raise itself", x.send(4, POWER, 4, 51, 6), DENIED);
        due("no change may be sent", x.send(4, POWER, 0, 100, 6), 6);
        due("50 lowers itself", x.send(4, POWER, 4, 49, 7), 7);
        due("49 cannot", x.send(4, POWER, 2, 1, 8), DENIED);
        due("levels go on: 0", x.level(0, 0), 100);
        due("levels go on: 4", x.level(0, 4), 49);
        due("levels go on: 8", x.level(0, 8), 50);
        due("100 lowers 50", x.send(0, POWER, 8, -100, 9), 8);
        due("level", x.level(0, 8), -100);
        due("100 gives 100", x.send(0, POWER, 8, 100, 10), 9);
        due("and takes it not again", x.send(0, POWER, 8, 99, 11), DENIED);
        due("8 leaves", x.send(8, MEMBER, 8, OUT, 12), 10);
        due("who is out cannot", x.send(8, POWER, 1, 1, 13), DENIED);
    }

    private static void lawOfRuleTopicMessage() {
        RoomFederation x = peopled();
        due("level 0 sets no rule", x.send(8, RULE, 0, 1, 6), DENIED);
        due("level 0 sets no topic", x.send(8, TOPIC, 0, 1, 6), DENIED);
        due("level 0 speaks", x.send(8, MESSAGE, 0, 1, 6), 5);
        due("50 sets the rule", x.send(4, RULE, 3, 1, 6), 6);
        due("its key is 0", x.state(0, RULE, 0), 6);
        due("50 sets a topic", x.send(4, TOPIC, 3, 1, 6), 7);
        due("its key is A", x.state(0, TOPIC, 3), 7);
        due("no rule 2", x.send(4, RULE, 0, 2, 6), DENIED);
        due("no rule -1", x.send(4, RULE, 0, -1, 6), DENIED);
        due("4 has 49", x.send(0, POWER, 4, 49, 7), 8);
        due("49 sets no rule", x.send(4, RULE, 0, 0, 8), DENIED);
        due("49 sets no topic", x.send(4, TOPIC, 0, 0, 8), DENIED);
        due("0 leaves", x.send(0, MEMBER, 0, OUT, 9), 9);
        due("who is out sets no rule", x.send(0, RULE, 0, 0, 10), DENIED);
        due("who is out sets no topic", x.send(0, TOPIC, 0, 0, 10), DENIED);
        due("who is out is silent", x.send(0, MESSAGE, 0, 0, 10), DENIED);
        due("no CREATE but the first", x.send(0, CREATE, 0, 0, 11), DENIED);
    }

    /** Two rooms flow into one: the rule of the first, the CREATE of the second, that is later. */
    private static void makerEntersRoomByInvitation() {
        RoomFederation x = begun();
        due("rule", x.send(0, RULE, 0, 1, 3), 2);
        due("another room", x.send(1, CREATE, 0, 0, 50), 3);
        due("sync", x.sync(0, 1), 3);
        due("the later CREATE", x.state(1, CREATE, 0), 3);
        due("the rule", x.state(1, RULE, 0), 2);
        due("its maker's level", x.level(1, 1), 100);
        due("the other's level", x.level(1, 0), 0);
        due("others cannot join", x.send(5, MEMBER, 5, JOINED, 51), DENIED);
        due("its maker can", x.send(1, MEMBER, 1, JOINED, 52), 4);
        due("and leaves", x.send(1, MEMBER, 1, OUT, 53), 5);
        due("and cannot then", x.send(1, MEMBER, 1, JOINED, 54), DENIED);
    }

    private static void forge() {
        RoomFederation x = peopled();
        due("user", x.forge(12, MESSAGE, 0, 0, 6, 4, -1), REFUSED);
        due("kind", x.forge(0, -1, 0, 0, 6, 4, -1), REFUSED);
        due("TOPIC", x.forge(0, TOPIC, 8, 0, 6, 4, -1), REFUSED);
        due("POWER", x.forge(0, POWER, 8, 101, 6, 4, -1), REFUSED);
        due("MEMBER", x.forge(0, MEMBER, 12, 0, 6, -7, -1), REFUSED);
        due("below -1", x.forge(0, MESSAGE, 0, 0, 6, 4, -2), NONE);
        due("no such", x.forge(0, MESSAGE, 0, 0, 6, 5, -1), NONE);
        due("far above", x.forge(0, MESSAGE, 0, 0, 6, -1, Integer.MAX_VALUE), NONE);
        due("not known at its server", x.forge(1, MESSAGE, 0, 0, 6, 0, -1), NONE);
        due("held is not known", x.deliver(1, 4), HELD);
        due("held is not known", x.forge(1, MESSAGE, 0, 0, 6, 4, -1), NONE);
        due("nothing was made", x.events(), 5);
        due("whatever allows it or not", x.forge(8, TOPIC, 0, 0, 6, 4, -1), 5);
        due("not good", x.look(5, 6), 0);
        due("in no state", x.state(0, TOPIC, 0), NONE);
        due("one and the same is one parent", x.forge(0, TOPIC, 1, 0, 7, 3, 3), 6);
        due("one parent", x.look(6, 4), 1);
        due("authorities of the state behind it", x.look(6, 5), 2);
        due("the state behind 3 has no POWER", x.before(6, POWER, 0), NONE);
        due("good", x.look(6, 6), 1);
        due("two parents", x.forge(0, TOPIC, 2, 0, 8, 6, 5), 7);
        due("two parents", x.look(7, 4), 2);
        due("resolved of both", x.before(7, POWER, 0), 4);
        due("resolved of both", x.before(7, TOPIC, 1), 6);
        due("first -1", x.forge(0, MESSAGE, 0, 0, 9, -1, 7), 8);
        due("one parent", x.look(8, 4), 1);
        due("no parents", x.forge(0, CREATE, 0, 0, 9, -1, -1), 9);
        due("a good CREATE", x.look(9, 6), 1);
        due("a CREATE with parents", x.forge(0, CREATE, 0, 0, 9, 1, -1), 10);
        due("is not good", x.look(10, 6), 0);
        due("needs nothing", x.look(10, 5), 0);
        due("two heads and more", x.count(0, 2), 3);
        due("known at its server", x.knows(0, 10), 1);
        due("alone", x.knows(2, 10), 0);
    }

    private static void goodness() {
        RoomFederation x = peopled();
        due("no parents", x.forge(0, MESSAGE, 0, 0, 6, -1, -1), 5);
        due("not good", x.look(5, 6), 0);
        due("MEMBER B 4", x.forge(0, MEMBER, 0, 4, 6, 4, -1), 6);
        due("not good", x.look(6, 6), 0);
        due("nothing in its place", x.before(x.forge(0, MESSAGE, 0, 0, 7, 6, -1), MEMBER, 0), 1);
        due("RULE B 2", x.forge(0, RULE, 0, 2, 6, 4, -1), 8);
        due("not good", x.look(8, 6), 0);
        due("8 bans 0", x.forge(8, MEMBER, 0, BANNED, 6, 4, -1), 9);
        due("not good", x.look(9, 6), 0);
        due("0 speaks behind it", x.forge(0, MESSAGE, 0, 0, 7, 9, -1), 10);
        due("good", x.look(10, 6), 1);
        due("4 raises itself", x.forge(4, POWER, 4, 100, 6, 4, -1), 11);
        due("not good", x.look(11, 6), 0);
    }

    /** Users 0 (100) and 4 (by event 2 joined, by event 3 of a level) send POWERs that know nothing of another. */
    private static int powerOf(int level, int time0, int time4) {
        RoomFederation x = begun();
        due("4 joins", x.send(4, MEMBER, 4, JOINED, 3), 2);
        due("4 has a level", x.send(0, POWER, 4, level, 4), 3);
        due("0 sends", x.forge(0, POWER, 8, 10, time0, 3, -1), 4);
        due("4 sends", x.forge(4, POWER, 1, 20, time4, 3, -1), 5);
        due("both are good", x.look(4, 6) + x.look(5, 6), 2);
        return x.state(0, POWER, 0);
    }

    private static void orderOne() {
        due("the greater level is tried first, though later", powerOf(90, 9, 8), 5);
        due("the greater level is tried first", powerOf(90, 8, 9), 5);
        due("of one level the lesser time", powerOf(100, 8, 9), 5);
        due("of one level the lesser time", powerOf(100, 9, 8), 4);
        due("of one time the lesser ID: 5907 is ahead of 30940", powerOf(100, 9, 9), 4);
        due("times may be below 0", powerOf(100, Integer.MIN_VALUE, Integer.MAX_VALUE), 5);
        removalsAreTriedFirst();
        chainsAreTriedFirst();
    }

    /** A ban is tried ahead of what the banned one did beside it, whatever the times say. */
    private static void removalsAreTriedFirst() {
        RoomFederation x = peopled();
        due("4 sets a topic early", x.forge(4, TOPIC, 0, 0, -50, 4, -1), 5);
        due("0 bans 4 late", x.forge(0, MEMBER, 4, BANNED, 50, 4, -1), 6);
        due("the ban stands", x.state(0, MEMBER, 4), 6);
        due("the topic does not", x.state(0, TOPIC, 0), NONE);
        due("though it is good", x.look(5, 6), 1);
        x = peopled();
        due("4 sets a topic early", x.forge(4, TOPIC, 0, 0, -50, 4, -1), 5);
        due("0 removes 4 late", x.forge(0, MEMBER, 4, OUT, 50, 4, -1), 6);
        due("it is out", x.state(0, MEMBER, 4), 6);
        due("the topic does not stand", x.state(0, TOPIC, 0), NONE);
        x = peopled();
        due("4 sets a topic early", x.forge(4, TOPIC, 0, 0, -50, 4, -1), 5);
        due("4 leaves late", x.forge(4, MEMBER, 4, OUT, 50, 4, -1), 6);
        due("it is out", x.state(0, MEMBER, 4), 6);
        due("who leaves by itself removes nothing", x.state(0, TOPIC, 0), 5);
        x = peopled();
        due("1 joins", x.sync(0, 1), 5);
        due("1 joins", x.send(1, MEMBER, 1, JOINED, -50), 5);
        due("by invitation", x.send(0, RULE, 0, 1, 50), 6);
        due("sync", x.sync(1, 0), 1);
        due("the rule is tried first", x.state(0, MEMBER, 1), NONE);
    }

    /** Event 6 has the greater sender's level and the lesser time, but 5 is of its chain. */
    private static void chainsAreTriedFirst() {
        RoomFederation x = peopled();
        due("4 gives 8 50", x.forge(4, POWER, 8, 50, 90, 4, -1), 5);
        due("0 gives 1 10", x.forge(0, POWER, 1, 10, 1, 5, -1), 6);
        due("0 sets the rule beside them", x.forge(0, RULE, 0, 1, 50, 4, -1), 7);
        due("the POWER", x.state(0, POWER, 0), 6);
        due("levels", x.level(0, 8), 50);
        due("levels", x.level(0, 1), 10);
        due("the rule", x.state(0, RULE, 0), 7);
    }

    private static int topicOf(int time4, int time0) {
        RoomFederation x = peopled();
        due("4 sets a topic", x.forge(4, TOPIC, 3, 0, time4, 4, -1), 5);
        due("0 sets it beside", x.forge(0, TOPIC, 3, 0, time0, 4, -1), 6);
        return x.state(0, TOPIC, 3);
    }

    private static void orderTwo() {
        due("the greater time is tried last", topicOf(8, 9), 6);
        due("the greater time is tried last", topicOf(9, 8), 5);
        due("then the greater ID: 46410 behind 5907", topicOf(9, 9), 6);
        RoomFederation x = peopled();
        due("0 sets a topic by POWER 4, late", x.forge(0, TOPIC, 0, 0, 99, 4, -1), 5);
        due("a new POWER", x.forge(0, POWER, 8, 50, 7, 4, -1), 6);
        due("0 sets it by POWER 6, early", x.forge(0, TOPIC, 0, 0, 1, 6, -1), 7);
        due("what is nearer in the mainline is tried last", x.state(0, TOPIC, 0), 7);
        due("0 sets it by none, latest", x.forge(0, TOPIC, 0, 0, 100, 3, -1), 8);
        due("what is beyond all is tried first", x.state(0, TOPIC, 0), 7);
        due("0 sets another by none, latest", x.forge(0, TOPIC, 1, 0, 100, 3, -1), 9);
        due("0 sets it by POWER 4, earliest", x.forge(0, TOPIC, 1, 0, 0, 4, -1), 10);
        due("what is beyond all is tried ahead of the last of the mainline", x.state(0, TOPIC, 1), 10);
    }

    private static void resolving() {
        RoomFederation x = new RoomFederation();
        due("a late CREATE", x.send(0, CREATE, 0, 0, 100), 0);
        due("an early join", x.send(0, MEMBER, 0, JOINED, 1), 1);
        due("a head with nothing behind it", x.forge(0, MESSAGE, 0, 0, 2, -1, -1), 2);
        due("tried by its authorities where there is nothing", x.state(0, MEMBER, 0), 1);
        due("the CREATE is there as well", x.state(0, CREATE, 0), 0);
        due("two of them", x.count(0, 3), 2);
        agreedStands();
        agreedIsTriedBy();
        chainsAreOfTheConflict();
        chainsOfSomeStates();
        whatWasIsOfTheConflict();
        chainsOfPowersAreTriedFirst();
        rulesAreOfOrderOne();
    }

    /** Topic 5 is good, but its sender's ban is agreed on: tried behind 7, it is not allowed. */
    private static void agreedIsTriedBy() {
        RoomFederation x = peopled();
        due("4 sets a topic", x.send(4, TOPIC, 0, 0, 99), 5);
        due("4 is banned", x.send(0, MEMBER, 4, BANNED, 7), 6);
        due("0 sets it", x.forge(0, TOPIC, 0, 0, 8, 6, -1), 7);
        due("0 speaks beside", x.forge(0, MESSAGE, 0, 0, 8, 6, -1), 8);
        due("the ban is agreed on", x.state(0, MEMBER, 4), 6);
        due("5 is tried last, but by it", x.state(0, TOPIC, 0), 7);
    }

    /** POWER one is in no state, but in the chain of POWER two: without it two is not allowed. */
    private static void chainsOfSomeStates() {
        RoomFederation x = peopled();
        due("8 has 60", x.forge(0, POWER, 8, 60, 6, 4, -1), 5);
        due("8 gives 1 55", x.forge(8, POWER, 1, 55, 7, 5, -1), 6);
        due("a topic beside", x.forge(4, TOPIC, 0, 0, 90, 4, -1), 7);
        due("the POWER of the lesser head", x.state(0, POWER, 0), 6);
        x = peopled();
        due("a topic", x.forge(4, TOPIC, 0, 0, 90, 4, -1), 5);
        due("8 has 60 beside", x.forge(0, POWER, 8, 60, 6, 4, -1), 6);
        due("8 gives 1 55", x.forge(8, POWER, 1, 55, 7, 6, -1), 7);
        due("the POWER of the greater head", x.state(0, POWER, 0), 7);
    }

    /** MEMBER 3 is in all chains, but not in all states: it stands as removal 5 is not allowed by 6. */
    private static void whatWasIsOfTheConflict() {
        RoomFederation x = peopled();
        due("4 removes 8", x.forge(4, MEMBER, 8, OUT, 6, 4, -1), 5);
        due("4 has 0", x.forge(0, POWER, 4, 0, 7, 4, -1), 6);
        due("the POWER", x.state(0, POWER, 0), 6);
        due("8 is joined still", x.state(0, MEMBER, 8), 3);
        x = peopled();
        due("4 has 0", x.forge(0, POWER, 4, 0, 7, 4, -1), 5);
        due("4 removes 8 beside", x.forge(4, MEMBER, 8, OUT, 6, 4, -1), 6);
        due("the POWER", x.state(0, POWER, 0), 5);
        due("8 is joined still", x.state(0, MEMBER, 8), 3);
    }

    /** Join 3 is of the chain of POWER 4, so it is tried ahead of the rule that would keep 4 out. */
    private static void chainsOfPowersAreTriedFirst() {
        RoomFederation x = begun();
        due("4 has 100", x.send(0, POWER, 4, 100, 3), 2);
        due("4 joins", x.forge(4, MEMBER, 4, JOINED, 5, 2, -1), 3);
        due("4 gives 8 1", x.forge(4, POWER, 8, 1, 20, 3, -1), 4);
        due("by invitation, beside", x.forge(0, RULE, 0, 1, 10, 2, -1), 5);
        due("the join", x.state(0, MEMBER, 4), 3);
        due("the POWER", x.state(0, POWER, 0), 4);
        due("the rule", x.state(0, RULE, 0), 5);
    }

    /** The greater level is tried first though it is later; and none is tried again in order two. */
    private static void rulesAreOfOrderOne() {
        RoomFederation x = peopled();
        due("0 sets the rule", x.forge(0, RULE, 0, 1, 8, 4, -1), 5);
        due("4 sets it earlier", x.forge(4, RULE, 0, 0, 7, 4, -1), 6);
        due("0's is tried first", x.state(0, RULE, 0), 6);
    }

    /** Event 4 is of the conflict by the chain of 5, and tried; but all states have 6 in its place. */
    private static void agreedStands() {
        RoomFederation x = begun();
        due("8 joins", x.send(8, MEMBER, 8, JOINED, 3), 2);
        due("8 has 50", x.send(0, POWER, 8, 50, 4), 3);
        due("8 joins again", x.forge(8, MEMBER, 8, JOINED, 5, 3, -1), 4);
        due("8 sets a topic by that", x.forge(8, TOPIC, 0, 0, 6, 4, -1), 5);
        due("8 joins again elsewhere", x.forge(8, MEMBER, 8, JOINED, 50, 3, -1), 6);
        due("both flow together", x.send(0, MESSAGE, 0, 0, 51), 7);
        due("the later MEMBER", x.before(7, MEMBER, 8), 6);
        due("and the topic", x.before(7, TOPIC, 0), 5);
        due("beside that", x.forge(0, MESSAGE, 0, 0, 52, 6, -1), 8);
        due("both again", x.forge(0, MESSAGE, 0, 0, 53, 7, 8), 9);
        due("what is agreed stands", x.before(9, MEMBER, 8), 6);
        due("the topic is tried again", x.before(9, TOPIC, 0), 5);
        due("the POWER is agreed", x.before(9, POWER, 0), 3);
    }

    /** POWER 5 is in no state but in the chain of 6: it has to be tried for 6 to be allowed. */
    private static void chainsAreOfTheConflict() {
        RoomFederation x = peopled();
        due("8 has 60", x.forge(0, POWER, 8, 60, 6, 4, -1), 5);
        due("8 gives 1 55", x.forge(8, POWER, 1, 55, 7, 5, -1), 6);
        due("0 gives 2 5 beside", x.forge(0, POWER, 2, 5, 90, 4, -1), 7);
        due("0 is of the greater level: 5, 7, then 6 by 7 alone", x.state(0, POWER, 0), 7);
        due("levels", x.level(0, 8), 0);
        x = peopled();
        due("8 has 60", x.forge(0, POWER, 8, 60, 6, 4, -1), 5);
        due("8 sets a topic", x.forge(8, TOPIC, 0, 0, 7, 5, -1), 6);
        due("4 sets it beside", x.forge(4, TOPIC, 0, 0, 90, 4, -1), 7);
        due("8's is tried by 5", x.state(0, TOPIC, 0), 6);
    }

    private static void deliver() {
        RoomFederation x = peopled();
        due("server -1", x.deliver(-1, 0), REFUSED);
        due("server 4", x.deliver(4, 0), REFUSED);
        due("server ahead of event", x.deliver(4, 9), REFUSED);
        due("event -1", x.deliver(1, -1), NONE);
        due("event 5", x.deliver(1, 5), NONE);
        due("known", x.deliver(0, 4), KNOWN);
        due("one more", x.deliver(1, 0), 1);
        due("then known", x.deliver(1, 0), KNOWN);
        due("ahead of its parent", x.deliver(1, 2), HELD);
        due("held again", x.deliver(1, 2), HELD);
        due("ahead of its parent", x.deliver(1, 4), HELD);
        due("held", x.count(1, 1), 2);
        due("known", x.count(1, 0), 1);
        due("it and what waited", x.deliver(1, 1), 2);
        due("held", x.count(1, 1), 1);
        due("the head", x.head(1, 0), 2);
        due("it and what waited", x.deliver(1, 3), 2);
        due("all", x.count(1, 0), 5);
        due("the state", x.state(1, POWER, 0), 4);
        waitsForAllParents();
    }

    private static void waitsForAllParents() {
        RoomFederation x = begun();
        due("one", x.forge(0, MESSAGE, 0, 0, 3, 1, -1), 2);
        due("two", x.forge(0, MESSAGE, 0, 0, 3, 1, -1), 3);
        due("both", x.send(0, MESSAGE, 0, 0, 4), 4);
        due("on", x.send(0, MESSAGE, 0, 0, 5), 5);
        due("held", x.deliver(2, 5), HELD);
        due("held", x.deliver(2, 4), HELD);
        due("known", x.deliver(2, 0), 1);
        due("known", x.deliver(2, 1), 1);
        due("known", x.deliver(2, 3), 1);
        due("still held", x.knows(2, 4), 2);
        due("all three", x.deliver(2, 2), 3);
        due("no more held", x.count(2, 1), 0);
        due("one head", x.count(2, 2), 1);
        due("the head", x.head(2, 0), 5);
    }

    private static void deliverHoldsAtMost() {
        RoomFederation x = begun();
        for (int i = 2; i < 40; i++) {
            due("message", x.send(0, MESSAGE, 0, 0, i), i);
        }
        for (int e = 39; e > 7; e--) {
            due("held " + e, x.deliver(1, e), HELD);
        }
        due("32 are held", x.count(1, 1), 32);
        due("no more", x.deliver(1, 7), FULL);
        due("not held then", x.knows(1, 7), 0);
        due("what is held is", x.deliver(1, 39), HELD);
        due("what need not be held comes", x.deliver(1, 0), 1);
        due("known", x.deliver(1, 0), KNOWN);
        due("all come", x.sync(0, 1), 39);
        due("none held", x.count(1, 1), 0);
        due("all known", x.count(1, 0), 40);
    }

    private static void sync() {
        RoomFederation x = peopled();
        due("from -1", x.sync(-1, 0), REFUSED);
        due("from 4", x.sync(4, 0), REFUSED);
        due("to -1", x.sync(0, -1), REFUSED);
        due("to 4", x.sync(0, 4), REFUSED);
        due("the same", x.sync(0, 0), 0);
        due("nothing known", x.sync(1, 0), 0);
        due("held is not sent on", x.deliver(1, 4), HELD);
        due("held is not sent on", x.sync(1, 2), 0);
        due("what was held counts", x.sync(0, 1), 5);
        due("no more", x.sync(0, 1), 0);
        due("known", x.count(1, 0), 5);
        due("not held", x.count(1, 1), 0);
        due("on", x.sync(1, 3), 5);
        due("nothing else", x.count(2, 0), 0);
        due("what is not good comes too", x.forge(0, TOPIC, 0, 0, 6, -1, -1), 5);
        due("what is not good comes too", x.sync(0, 3), 1);
        due("known", x.knows(3, 5), 1);
    }

    private static void state() {
        RoomFederation x = peopled();
        due("server -1", x.state(-1, 0, 0), REFUSED);
        due("server 4", x.state(4, 0, 0), REFUSED);
        due("kind -1", x.state(0, -1, 0), REFUSED);
        due("MESSAGE", x.state(0, MESSAGE, 0), REFUSED);
        due("key -1", x.state(0, MEMBER, -1), REFUSED);
        due("key 12", x.state(0, MEMBER, 12), REFUSED);
        due("CREATE", x.state(0, CREATE, 0), 0);
        due("CREATE of another key", x.state(0, CREATE, 1), NONE);
        due("POWER", x.state(0, POWER, 0), 4);
        due("POWER of another key", x.state(0, POWER, 4), NONE);
        due("no RULE", x.state(0, RULE, 0), NONE);
        due("RULE of another key", x.state(0, RULE, 11), NONE);
        due("MEMBER", x.state(0, MEMBER, 8), 3);
        due("no MEMBER", x.state(0, MEMBER, 11), NONE);
        due("topic", x.send(0, TOPIC, 7, 0, 6), 5);
        due("TOPIC", x.state(0, TOPIC, 7), 5);
        due("no TOPIC", x.state(0, TOPIC, 6), NONE);
        due("no such TOPIC", x.state(0, TOPIC, 8), NONE);
        due("no such TOPIC", x.state(0, TOPIC, 11), NONE);
        due("another server", x.state(1, CREATE, 0), NONE);
        due("a part comes", x.deliver(1, 0), 1);
        due("a part comes", x.deliver(1, 1), 1);
        due("its own state", x.state(1, MEMBER, 0), 1);
        due("its own state", x.state(1, MEMBER, 8), NONE);
    }

    private static void before() {
        RoomFederation x = peopled();
        due("kind -1", x.before(4, -1, 0), REFUSED);
        due("MESSAGE", x.before(4, MESSAGE, 0), REFUSED);
        due("key -1", x.before(4, 0, -1), REFUSED);
        due("key 12", x.before(4, 0, 12), REFUSED);
        due("kind ahead of event", x.before(9, 5, 0), REFUSED);
        due("no such event", x.before(5, 0, 0), NONE);
        due("no such event", x.before(-1, 0, 0), NONE);
        due("nothing before CREATE", x.before(0, CREATE, 0), NONE);
        due("CREATE", x.before(1, CREATE, 0), 0);
        due("not the event itself", x.before(4, POWER, 0), NONE);
        due("MEMBER", x.before(4, MEMBER, 8), 3);
        due("the one that was", x.send(8, MEMBER, 8, JOINED, 7), 5);
        due("the one that was", x.before(5, MEMBER, 8), 3);
        due("POWER", x.before(5, POWER, 0), 4);
        due("no such TOPIC", x.before(5, TOPIC, 9), NONE);
    }

    private static void look() {
        RoomFederation x = peopled();
        due("ban", x.send(4, MEMBER, 11, BANNED, 6), 5);
        int[] answers = {4, MEMBER, 11, BANNED, 1, 3, 1, 5 * 40503 % 65536};
        for (int what = 0; what < 8; what++) {
            due("look " + what, x.look(5, what), answers[what]);
        }
        due("what -1", x.look(5, -1), REFUSED);
        due("what 8", x.look(5, 8), REFUSED);
        due("what ahead of event", x.look(6, 8), REFUSED);
        due("no such event", x.look(6, 0), NONE);
        due("no such event", x.look(-1, 7), NONE);
        due("A and B as they were", x.send(0, MESSAGE, Integer.MIN_VALUE, Integer.MAX_VALUE, 7), 6);
        due("A", x.look(6, 2), Integer.MIN_VALUE);
        due("B", x.look(6, 3), Integer.MAX_VALUE);
    }

    private static void level() {
        RoomFederation x = begun();
        due("no server", x.level(4, 0), 1000);
        due("no server", x.level(-1, 0), 1000);
        due("no user", x.level(0, 12), 1000);
        due("no user", x.level(0, -1), 1000);
        due("the maker", x.level(0, 0), 100);
        due("others", x.level(0, 11), 0);
        due("a server that knows nothing", x.level(1, 0), 0);
        due("power", x.send(0, POWER, 11, -7, 3), 2);
        due("by the POWER", x.level(0, 11), -7);
        due("the maker still", x.level(0, 0), 100);
        due("power", x.send(0, POWER, 0, 60, 4), 3);
        due("the maker no more", x.level(0, 0), 60);
        due("levels go on", x.level(0, 11), -7);
    }

    private static void knows() {
        RoomFederation x = begun();
        due("server -1", x.knows(-1, 0), REFUSED);
        due("server 4", x.knows(4, 0), REFUSED);
        due("known", x.knows(0, 1), 1);
        due("no such", x.knows(0, 2), 0);
        due("no such", x.knows(0, -1), 0);
        due("no such", x.knows(0, 400), 0);
        due("no such", x.knows(0, Integer.MAX_VALUE), 0);
        due("not known", x.knows(1, 1), 0);
        due("held", x.deliver(1, 1), HELD);
        due("held", x.knows(1, 1), 2);
        due("it comes", x.deliver(1, 0), 2);
        due("known", x.knows(1, 1), 1);
    }

    private static void head() {
        RoomFederation x = begun();
        due("server -1", x.head(-1, 0), REFUSED);
        due("server 4", x.head(4, 0), REFUSED);
        due("head", x.head(0, 0), 1);
        due("k 1", x.head(0, 1), NONE);
        due("k -1", x.head(0, -1), NONE);
        due("k far", x.head(0, Integer.MAX_VALUE), NONE);
        due("beside", x.forge(0, MESSAGE, 0, 0, 3, 0, -1), 2);
        due("beside", x.forge(0, MESSAGE, 0, 0, 3, 1, -1), 3);
        due("by numbers", x.head(0, 0), 2);
        due("by numbers", x.head(0, 1), 3);
        due("no more", x.head(0, 2), NONE);
        due("a head elsewhere", x.deliver(1, 0), 1);
        due("a head elsewhere", x.head(1, 0), 0);
        due("held is no head", x.deliver(1, 3), HELD);
        due("held is no head", x.head(1, 1), NONE);
    }

    private static void count() {
        RoomFederation x = peopled();
        due("server -1", x.count(-1, 0), REFUSED);
        due("server 4", x.count(4, 0), REFUSED);
        due("what -1", x.count(0, -1), REFUSED);
        due("what 4", x.count(0, 4), REFUSED);
        due("known", x.count(0, 0), 5);
        due("held", x.count(0, 1), 0);
        due("heads", x.count(0, 2), 1);
        due("state", x.count(0, 3), 5);
        due("beside", x.forge(0, MESSAGE, 0, 0, 6, 1, -1), 5);
        due("heads", x.count(0, 2), 2);
        due("a MESSAGE is no part of a state", x.count(0, 3), 5);
        due("held", x.deliver(3, 2), HELD);
        due("held", x.count(3, 1), 1);
        due("no heads", x.count(3, 2), 0);
        due("no state", x.count(3, 3), 0);
    }

    private static void events() {
        RoomFederation x = begun();
        due("two", x.events(), 2);
        due("denied", x.send(4, MESSAGE, 0, 0, 0), DENIED);
        due("none more", x.events(), 2);
        due("forged", x.forge(4, MESSAGE, 0, 0, 0, 1, -1), 2);
        due("of all servers", x.send(3, CREATE, 0, 0, 0), 3);
        due("four", x.events(), 4);
    }
}
