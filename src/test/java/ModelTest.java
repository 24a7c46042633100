import java.util.Random;

/** Random runs of calls, each answer compared with the one of PlainRoom; seeds are fixed. */
public final class ModelTest {
    private static final int RUNS = 400;
    private static final int CALLS = 512;

    private final Random random;
    private final RoomFederation room = new RoomFederation();
    private final PlainRoom plain = new PlainRoom();
    private final String run;
    private final int times;
    private final int syncs;
    private final int forges;
    private final int users;
    private final boolean manyRooms;
    private int calls = 0;

    private ModelTest(int seed) {
        random = new Random(seed);
        run = "run " + seed + " call ";
        times = new int[] {2, 10, 1000}[random.nextInt(3)];
        syncs = 2 + random.nextInt(25);
        forges = random.nextInt(30);
        users = 4 + random.nextInt(9);
        manyRooms = random.nextInt(3) == 0;
    }

    public static void main(String[] args) {
        int runs = args.length > 0 ? Integer.parseInt(args[0]) : RUNS;
        for (int seed = 0; seed < runs; seed++) {
            new ModelTest(seed).play();
        }
        Check.end();
    }

    private void due(String call, int got, int want) {
        calls++;
        Check.due(run + calls + " " + call, got, want);
    }

    private void play() {
        begin();
        while (calls < CALLS) {
            int choice = random.nextInt(100);
            if (choice < 45) {
                send(user(), kind());
            } else if (choice < 45 + forges) {
                forge();
            } else if (choice < 75) {
                move();
            } else {
                ask();
            }
        }
    }

    private void begin() {
        if (random.nextInt(20) == 0) {
            return;
        }
        for (int u = 0; u < (manyRooms ? 4 : 1); u++) {
            sendExactly(u, 0, 0, 0, random.nextInt(times));
            sendExactly(u, 1, u, 1, random.nextInt(times));
        }
        for (int s = 1; s < 4; s++) {
            sync(0, s);
        }
        if (random.nextBoolean()) {
            for (int u = 1; u < 5; u++) {
                sendExactly(u, 1, u, 1, random.nextInt(times));
                sync(u % 4, 0);
                sendExactly(0, 2, u, random.nextInt(3) * 25 + 50, random.nextInt(times));
                sync(0, (u + 1) % 4);
            }
        }
    }

    private int user() {
        return random.nextInt(60) == 0 ? random.nextInt(16) - 2 : random.nextInt(users);
    }

    private int server() {
        return random.nextInt(80) == 0 ? random.nextInt(8) - 2 : random.nextInt(4);
    }

    private int event() {
        int most = Math.max(1, plain.events());
        if (random.nextInt(40) == 0) {
            return random.nextInt(most + 6) - 3;
        }
        return random.nextBoolean() ? random.nextInt(most) : Math.max(0, most - 1 - random.nextInt(8));
    }

    private int kind() {
        int choice = random.nextInt(100);
        if (choice < 2) {
            return random.nextInt(10) - 2;
        }
        if (choice < 40) {
            return 1;
        }
        return choice < 58 ? 2 : choice < 64 ? 3 : choice < 85 ? 4 : choice < 99 || !manyRooms ? 5 : 0;
    }

    private int a(int user, int kind) {
        if (random.nextInt(60) == 0) {
            return random.nextInt(20) - 4;
        }
        if (kind == 1) {
            return random.nextBoolean() ? user : random.nextInt(users);
        }
        return kind == 4 ? random.nextInt(random.nextBoolean() ? 8 : 2) : random.nextInt(users);
    }

    private int b(int user, int kind, int a) {
        if (random.nextInt(60) == 0) {
            return random.nextInt(300) - 150;
        }
        if (kind == 1) {
            return user == a ? (random.nextInt(6) == 0 ? 0 : 1) : new int[] {2, 2, 3, 0, 1}[random.nextInt(5)];
        }
        if (kind == 2) {
            return new int[] {100, 100, 75, 50, 50, 49, 0, -100}[random.nextInt(8)];
        }
        return random.nextInt(2);
    }

    private void send(int user, int kind) {
        int a = a(user, kind);
        sendExactly(user, kind, a, b(user, kind, a), random.nextInt(times) - times / 2);
    }

    private void sendExactly(int user, int kind, int a, int b, int time) {
        due("send(" + user + ", " + kind + ", " + a + ", " + b + ", " + time + ")",
            room.send(user, kind, a, b, time), plain.send(user, kind, a, b, time));
    }

    private void forge() {
        int user = user();
        boolean newRoom = manyRooms && random.nextInt(12) == 0;
        int kind = newRoom ? 0 : kind();
        int a = a(user, kind);
        int b = b(user, kind, a);
        int time = random.nextInt(times);
        int one = newRoom ? -1 : parent(user);
        int two = newRoom || random.nextInt(3) == 0 ? -1 : random.nextInt(6) == 0 ? one : parent(user);
        due("forge(" + user + ", " + kind + ", " + a + ", " + b + ", " + time + ", " + one + ", " + two + ")",
            room.forge(user, kind, a, b, time, one, two), plain.forge(user, kind, a, b, time, one, two));
    }

    private int parent(int user) {
        if (random.nextInt(25) == 0) {
            return random.nextInt(4) - 3;
        }
        int found = event();
        for (int i = 0; i < 6 && plain.knows(Math.floorMod(user, 4), found) != 1; i++) {
            found = event();
        }
        return found;
    }

    private void sync(int from, int to) {
        due("sync(" + from + ", " + to + ")", room.sync(from, to), plain.sync(from, to));
    }

    private void move() {
        if (random.nextInt(30) < syncs) {
            sync(server(), server());
            return;
        }
        int server = server();
        int event = event();
        due("deliver(" + server + ", " + event + ")", room.deliver(server, event), plain.deliver(server, event));
    }

    private void ask() {
        int server = server();
        int event = event();
        int number = random.nextInt(12) == 0 ? random.nextInt(40) - 20 : random.nextInt(8);
        int key = random.nextInt(30) == 0 ? random.nextInt(16) - 2 : random.nextInt(12);
        switch (random.nextInt(8)) {
            case 0: due("state(" + server + ", " + number + ", " + key + ")",
                room.state(server, number, key), plain.state(server, number, key));
                break;
            case 1: due("before(" + event + ", " + number + ", " + key + ")",
                room.before(event, number, key), plain.before(event, number, key));
                break;
            case 2: due("look(" + event + ", " + number + ")", room.look(event, number), plain.look(event, number));
                break;
            case 3: due("level(" + server + ", " + key + ")", room.level(server, key), plain.level(server, key));
                break;
            case 4: due("knows(" + server + ", " + event + ")", room.knows(server, event), plain.knows(server, event));
                break;
            case 5: due("head(" + server + ", " + number + ")", room.head(server, number), plain.head(server, number));
                break;
            case 6: due("count(" + server + ", " + number + ")", room.count(server, number), plain.count(server, number));
                break;
            default: due("events()", room.events(), plain.events());
                break;
        }
    }
}
