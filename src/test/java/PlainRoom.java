import java.util.ArrayList;
import java.util.Arrays;
import java.util.Collection;
import java.util.Comparator;
import java.util.HashMap;
import java.util.List;
import java.util.Map;
import java.util.TreeMap;
import java.util.TreeSet;

/**
 * The document's terms written down once more, as slowly and as near to its words as can be: what
 * the class answers is compared with what this answers.
 */
final class PlainRoom {
    private record Event(int number, int sender, int kind, int a, int b, int time,
                         TreeSet<Integer> parents, TreeSet<Integer> authorities) {
        int id() {
            return (int) ((long) number * 40503L % 65536L);
        }

        String key() {
            return switch (kind) {
                case 0, 2, 3 -> name(kind, 0);
                case 1, 4 -> name(kind, a);
                default -> null;
            };
        }
    }

    private final List<Event> all = new ArrayList<>();
    private final List<TreeSet<Integer>> known = new ArrayList<>();
    private final List<TreeSet<Integer>> held = new ArrayList<>();
    private final Map<Integer, TreeMap<String, Integer>> befores = new HashMap<>();
    private final Map<Integer, Boolean> goods = new HashMap<>();
    private final Map<Integer, TreeSet<Integer>> chains = new HashMap<>();

    PlainRoom() {
        for (int s = 0; s < 4; s++) {
            known.add(new TreeSet<>());
            held.add(new TreeSet<>());
        }
    }

    private static String name(int kind, int key) {
        return kind + ":" + key;
    }

    // ---- levels, memberships, rules

    private int[] levelsOf(int power) {
        Event e = all.get(power);
        return levelsOf(e);
    }

    private int[] levelsOf(Event e) {
        int[] levels = new int[12];
        int below = -1;
        int create = -1;
        for (int x : e.authorities()) {
            if (all.get(x).kind() == 2) {
                below = x;
            }
            if (all.get(x).kind() == 0) {
                create = x;
            }
        }
        if (below >= 0) {
            levels = levelsOf(below).clone();
        } else if (create >= 0) {
            levels[all.get(create).sender()] = 100;
        }
        levels[e.a()] = e.b();
        return levels;
    }

    private int levelBy(Map<String, Integer> state, int user) {
        Integer power = state.get("2:0");
        if (power != null) {
            return levelsOf(power)[user];
        }
        Integer create = state.get("0:0");
        return create != null && all.get(create).sender() == user ? 100 : 0;
    }

    private String membership(Map<String, Integer> state, int user) {
        Integer member = state.get(name(1, user));
        if (member == null) {
            return "out";
        }
        return switch (all.get(member).b()) {
            case 0 -> "out";
            case 1 -> "joined";
            case 2 -> "invited";
            case 3 -> "banned";
            default -> "?";
        };
    }

    private TreeSet<Integer> needed(Map<String, Integer> state, int kind, int sender, int a) {
        TreeSet<Integer> found = new TreeSet<>();
        if (kind == 0) {
            return found;
        }
        List<String> names = new ArrayList<>(List.of("0:0", "2:0", name(1, sender)));
        if (kind == 1) {
            names.add(name(1, a));
            names.add("3:0");
        }
        for (String n : names) {
            if (state.containsKey(n)) {
                found.add(state.get(n));
            }
        }
        return found;
    }

    private boolean allowed(Map<String, Integer> state, Event e) {
        if (e.kind() == 0) {
            return e.parents().isEmpty();
        }
        if (!state.containsKey("0:0")) {
            return false;
        }
        int s = e.sender();
        boolean joined = membership(state, s).equals("joined");
        int level = levelBy(state, s);
        switch (e.kind()) {
            case 1:
                return memberAllowed(state, e);
            case 2:
                if (!joined || level < 50) {
                    return false;
                }
                int[] will = levelsOf(e);
                for (int u = 0; u < 12; u++) {
                    int was = levelBy(state, u);
                    if (was == will[u]) {
                        continue;
                    }
                    if (!(was <= level && will[u] <= level)) {
                        return false;
                    }
                    if (u != s && !(was < level)) {
                        return false;
                    }
                }
                return true;
            case 3:
                return joined && level >= 50 && (e.b() == 0 || e.b() == 1);
            case 4:
                return joined && level >= 50;
            default:
                return joined;
        }
    }

    private boolean memberAllowed(Map<String, Integer> state, Event e) {
        int s = e.sender();
        int a = e.a();
        String was = membership(state, a);
        boolean joined = membership(state, s).equals("joined");
        boolean higher = levelBy(state, s) >= 50 && levelBy(state, s) > levelBy(state, a);
        switch (e.b()) {
            case 1:
                if (s != a || was.equals("banned")) {
                    return false;
                }
                Integer rule = state.get("3:0");
                if (rule == null || all.get(rule).b() == 0) {
                    return true;
                }
                if (was.equals("joined") || was.equals("invited")) {
                    return true;
                }
                return !state.containsKey(name(1, a)) && !state.containsKey("2:0")
                    && all.get(state.get("0:0")).sender() == s;
            case 2:
                return joined && !was.equals("joined") && !was.equals("banned");
            case 0:
                if (s == a) {
                    return was.equals("joined") || was.equals("invited");
                }
                return joined && higher && !was.equals("out");
            case 3:
                return joined && higher;
            default:
                return false;
        }
    }

    // ---- chains, states, resolving

    private TreeSet<Integer> chain(int number) {
        TreeSet<Integer> found = chains.get(number);
        if (found == null) {
            found = new TreeSet<>();
            for (int x : all.get(number).authorities()) {
                found.add(x);
                found.addAll(chain(x));
            }
            chains.put(number, found);
        }
        return found;
    }

    private TreeMap<String, Integer> made(Collection<Integer> authorities) {
        TreeMap<String, Integer> state = new TreeMap<>();
        for (int x : new TreeSet<>(authorities)) {
            state.put(all.get(x).key(), x);
        }
        return state;
    }

    private boolean good(int number) {
        Boolean answer = goods.get(number);
        if (answer == null) {
            Event e = all.get(number);
            boolean all_good = true;
            for (int x : e.authorities()) {
                all_good &= good(x);
            }
            answer = all_good && allowed(made(e.authorities()), e) && allowed(stateBefore(number), e)
                && (e.kind() == 0 || !e.parents().isEmpty());
            goods.put(number, answer);
        }
        return answer;
    }

    private TreeMap<String, Integer> behind(int number) {
        TreeMap<String, Integer> state = new TreeMap<>(stateBefore(number));
        String key = all.get(number).key();
        if (good(number) && key != null) {
            state.put(key, number);
        }
        return state;
    }

    private TreeMap<String, Integer> stateBefore(int number) {
        TreeMap<String, Integer> state = befores.get(number);
        if (state == null) {
            state = resolvedBehind(all.get(number).parents());
            befores.put(number, state);
        }
        return state;
    }

    private TreeMap<String, Integer> resolvedBehind(Collection<Integer> numbers) {
        List<TreeMap<String, Integer>> states = new ArrayList<>();
        for (int n : numbers) {
            states.add(behind(n));
        }
        return states.isEmpty() ? new TreeMap<>() : resolved(states);
    }

    private TreeMap<String, Integer> resolved(List<TreeMap<String, Integer>> states) {
        TreeMap<String, Integer> agreed = new TreeMap<>();
        for (Map.Entry<String, Integer> entry : states.get(0).entrySet()) {
            boolean same = true;
            for (TreeMap<String, Integer> state : states) {
                same &= entry.getValue().equals(state.get(entry.getKey()));
            }
            if (same) {
                agreed.put(entry.getKey(), entry.getValue());
            }
        }
        TreeSet<Integer> conflict = new TreeSet<>();
        List<TreeSet<Integer>> stateChains = new ArrayList<>();
        TreeSet<Integer> inSome = new TreeSet<>();
        for (TreeMap<String, Integer> state : states) {
            TreeSet<Integer> mine = new TreeSet<>();
            for (int x : state.values()) {
                mine.add(x);
                mine.addAll(chain(x));
                if (!agreed.containsValue(x)) {
                    conflict.add(x);
                }
            }
            stateChains.add(mine);
            inSome.addAll(mine);
        }
        for (int x : inSome) {
            for (TreeSet<Integer> mine : stateChains) {
                if (!mine.contains(x)) {
                    conflict.add(x);
                }
            }
        }
        TreeSet<Integer> powers = powersOf(conflict);
        TreeMap<String, Integer> r = new TreeMap<>(agreed);
        for (int x : orderOne(powers)) {
            attempt(r, x);
        }
        TreeSet<Integer> others = new TreeSet<>(conflict);
        others.removeAll(powers);
        for (int x : orderTwo(others, r)) {
            attempt(r, x);
        }
        r.putAll(agreed);
        return r;
    }

    private TreeSet<Integer> powersOf(TreeSet<Integer> conflict) {
        TreeSet<Integer> powers = new TreeSet<>();
        for (int x : conflict) {
            Event e = all.get(x);
            boolean removes = e.kind() == 1 && (e.b() == 0 || e.b() == 3) && e.sender() != e.a();
            if (e.kind() == 2 || e.kind() == 3 || removes) {
                powers.add(x);
                for (int y : chain(x)) {
                    if (conflict.contains(y)) {
                        powers.add(y);
                    }
                }
            }
        }
        return powers;
    }

    private List<Integer> orderOne(TreeSet<Integer> powers) {
        TreeSet<Integer> left = new TreeSet<>(powers);
        List<Integer> order = new ArrayList<>();
        while (!left.isEmpty()) {
            List<Integer> free = new ArrayList<>();
            for (int x : left) {
                boolean blocked = false;
                for (int y : chain(x)) {
                    blocked |= left.contains(y);
                }
                if (!blocked) {
                    free.add(x);
                }
            }
            free.sort(Comparator
                .comparingInt((Integer x) -> -levelBy(made(all.get(x).authorities()), all.get(x).sender()))
                .thenComparingInt(x -> all.get(x).time())
                .thenComparingInt(x -> all.get(x).id()));
            order.add(free.get(0));
            left.remove(free.get(0));
        }
        return order;
    }

    private int powerAmong(Collection<Integer> authorities) {
        int found = -1;
        for (int x : authorities) {
            if (all.get(x).kind() == 2) {
                found = x;
            }
        }
        return found;
    }

    private List<Integer> orderTwo(TreeSet<Integer> others, TreeMap<String, Integer> r) {
        List<Integer> mainline = new ArrayList<>();
        int power = r.getOrDefault("2:0", -1);
        while (power >= 0) {
            mainline.add(power);
            power = powerAmong(all.get(power).authorities());
        }
        Map<Integer, Integer> place = new HashMap<>();
        for (int x : others) {
            int at = x;
            while (at >= 0 && !mainline.contains(at)) {
                at = powerAmong(all.get(at).authorities());
            }
            place.put(x, at < 0 ? Integer.MAX_VALUE : mainline.indexOf(at));
        }
        List<Integer> order = new ArrayList<>(others);
        order.sort((x, y) -> {
            int byPlace = Integer.compare(place.get(y), place.get(x));
            if (byPlace != 0) {
                return byPlace;
            }
            int byTime = Integer.compare(all.get(x).time(), all.get(y).time());
            return byTime != 0 ? byTime : Integer.compare(all.get(x).id(), all.get(y).id());
        });
        return order;
    }

    private void attempt(TreeMap<String, Integer> r, int x) {
        TreeMap<String, Integer> by = made(all.get(x).authorities());
        by.putAll(r);
        if (allowed(by, all.get(x))) {
            r.put(all.get(x).key(), x);
        }
    }

    // ---- servers

    private TreeSet<Integer> headsOf(int server) {
        TreeSet<Integer> heads = new TreeSet<>(known.get(server));
        for (int x : known.get(server)) {
            heads.removeAll(all.get(x).parents());
        }
        return heads;
    }

    private TreeMap<String, Integer> stateAt(int server) {
        return resolvedBehind(headsOf(server));
    }

    private boolean improper(int user, int kind, int a, int b) {
        return user < 0 || user > 11 || kind < 0 || kind > 5
            || (kind == 1 || kind == 2) && (a < 0 || a > 11)
            || kind == 4 && (a < 0 || a > 7)
            || kind == 2 && (b < -100 || b > 100);
    }

    // ---- the face

    int send(int user, int kind, int a, int b, int time) {
        if (improper(user, kind, a, b)) {
            return -1;
        }
        if (all.size() == 400) {
            return -3;
        }
        TreeMap<String, Integer> state = stateAt(user % 4);
        TreeSet<Integer> parents = headsOf(user % 4);
        while (parents.size() > 4) {
            parents.pollFirst();
        }
        Event e = new Event(all.size(), user, kind, a, b, time, parents, needed(state, kind, user, a));
        if (!allowed(state, e)) {
            return -4;
        }
        all.add(e);
        known.get(user % 4).add(e.number());
        return e.number();
    }

    int forge(int user, int kind, int a, int b, int time, int one, int two) {
        if (improper(user, kind, a, b)) {
            return -1;
        }
        TreeSet<Integer> parents = new TreeSet<>();
        for (int p : Arrays.asList(one, two)) {
            if (p == -1) {
                continue;
            }
            if (!known.get(user % 4).contains(p)) {
                return -2;
            }
            parents.add(p);
        }
        if (all.size() == 400) {
            return -3;
        }
        TreeSet<Integer> authorities = needed(resolvedBehind(parents), kind, user, a);
        all.add(new Event(all.size(), user, kind, a, b, time, parents, authorities));
        known.get(user % 4).add(all.size() - 1);
        return all.size() - 1;
    }

    private static boolean noServer(int server) {
        return server < 0 || server > 3;
    }

    private boolean noEvent(int event) {
        return event < 0 || event >= all.size();
    }

    int deliver(int server, int event) {
        if (noServer(server)) {
            return -1;
        }
        if (noEvent(event)) {
            return -2;
        }
        TreeSet<Integer> knows = known.get(server);
        TreeSet<Integer> holds = held.get(server);
        if (knows.contains(event)) {
            return -5;
        }
        if (holds.contains(event)) {
            return -6;
        }
        if (!knows.containsAll(all.get(event).parents())) {
            if (holds.size() == 32) {
                return -3;
            }
            holds.add(event);
            return -6;
        }
        int before = knows.size();
        knows.add(event);
        boolean more = true;
        while (more) {
            more = false;
            for (int x : holds) {
                if (knows.containsAll(all.get(x).parents())) {
                    holds.remove(x);
                    knows.add(x);
                    more = true;
                    break;
                }
            }
        }
        return knows.size() - before;
    }

    int sync(int from, int to) {
        if (noServer(from) || noServer(to)) {
            return -1;
        }
        int more = 0;
        for (int x : new ArrayList<>(known.get(from))) {
            more += Math.max(0, deliver(to, x));
        }
        return more;
    }

    int state(int server, int kind, int key) {
        if (noServer(server) || kind < 0 || kind > 4 || key < 0 || key > 11) {
            return -1;
        }
        return stateAt(server).getOrDefault(name(kind, key), -2);
    }

    int before(int event, int kind, int key) {
        if (kind < 0 || kind > 4 || key < 0 || key > 11) {
            return -1;
        }
        return noEvent(event) ? -2 : stateBefore(event).getOrDefault(name(kind, key), -2);
    }

    int look(int event, int what) {
        if (what < 0 || what > 7) {
            return -1;
        }
        if (noEvent(event)) {
            return -2;
        }
        Event e = all.get(event);
        int[] answers = {e.sender(), e.kind(), e.a(), e.b(), e.parents().size(),
            e.authorities().size(), good(event) ? 1 : 0, e.id()};
        return answers[what];
    }

    int level(int server, int user) {
        return noServer(server) || user < 0 || user > 11 ? 1000 : levelBy(stateAt(server), user);
    }

    int knows(int server, int event) {
        if (noServer(server)) {
            return -1;
        }
        return known.get(server).contains(event) ? 1 : held.get(server).contains(event) ? 2 : 0;
    }

    int head(int server, int k) {
        if (noServer(server)) {
            return -1;
        }
        List<Integer> heads = new ArrayList<>(headsOf(server));
        return k < 0 || k >= heads.size() ? -2 : heads.get(k);
    }

    int count(int server, int what) {
        if (noServer(server) || what < 0 || what > 3) {
            return -1;
        }
        return switch (what) {
            case 0 -> known.get(server).size();
            case 1 -> held.get(server).size();
            case 2 -> headsOf(server).size();
            default -> stateAt(server).size();
        };
    }

    int events() {
        return all.size();
    }
}
