/** What the hand-written tests share: the document's words, rooms to begin with, a picture of one. */
abstract class Rooms {
    static final int REFUSED = -1, NONE = -2, FULL = -3, DENIED = -4, KNOWN = -5, HELD = -6;
    static final int CREATE = 0, MEMBER = 1, POWER = 2, RULE = 3, TOPIC = 4, MESSAGE = 5;
    static final int OUT = 0, JOINED = 1, INVITED = 2, BANNED = 3;
    static final int LEAST = Integer.MIN_VALUE, MOST = Integer.MAX_VALUE;

    static void due(String what, int got, int want) {
        Check.due(what, got, want);
    }

    /** User 0 made the room (event 0) and joined it (event 1) at server 0. */
    static RoomFederation begun() {
        RoomFederation x = new RoomFederation();
        due("begun: create", x.send(0, CREATE, 0, 0, 1), 0);
        due("begun: join", x.send(0, MEMBER, 0, JOINED, 2), 1);
        return x;
    }

    /** And users 4 (event 2, level 50 by event 4) and 8 (event 3, level 0) joined there too. */
    static RoomFederation peopled() {
        RoomFederation x = begun();
        due("peopled: 4 joins", x.send(4, MEMBER, 4, JOINED, 3), 2);
        due("peopled: 8 joins", x.send(8, MEMBER, 8, JOINED, 4), 3);
        due("peopled: 4 has 50", x.send(0, POWER, 4, 50, 5), 4);
        return x;
    }

    /** 0 (level 100), 4 and 8 are joined, with these levels of 4 and 8; the next event is number 6. */
    static RoomFederation levelled(int levelOf4, int levelOf8) {
        RoomFederation x = begun();
        due("levelled: 4 joins", x.send(4, MEMBER, 4, JOINED, 3), 2);
        due("levelled: 8 joins", x.send(8, MEMBER, 8, JOINED, 4), 3);
        due("levelled: 4 has " + levelOf4, x.send(0, POWER, 4, levelOf4, 5), 4);
        due("levelled: 8 has " + levelOf8, x.send(0, POWER, 8, levelOf8, 6), 5);
        return x;
    }

    /** A room that user 0 begun, with messages on until there are so many events, one behind another. */
    static RoomFederation lengthy(int events) {
        RoomFederation x = begun();
        for (int n = 2; n < events; n++) {
            due("long: message " + n, x.send(0, MESSAGE, 0, 0, n), n);
        }
        return x;
    }

    /** What can be seen of an object, in 37 calls: two pictures are the same if nothing was changed. */
    static String picture(RoomFederation x) {
        StringBuilder seen = new StringBuilder();
        seen.append(x.events());
        for (int s = 0; s < 4; s++) {
            seen.append(" / ");
            for (int what = 0; what < 4; what++) {
                seen.append(x.count(s, what)).append(' ');
            }
            seen.append(x.head(s, 0)).append(' ').append(x.head(s, 1)).append(' ');
            seen.append(x.state(s, CREATE, 0)).append(' ').append(x.state(s, MEMBER, 4)).append(' ');
            seen.append(x.level(s, 4));
        }
        return seen.toString();
    }

    static void same(String what, String got, String want) {
        Check.due(what + ": " + got + " was " + want, got.equals(want) ? 1 : 0, 1);
    }
}
