import java.util.ArrayDeque;
import java.util.ArrayList;
import java.util.Deque;
import java.util.List;
import java.util.Map;
import java.util.Random;
import java.util.TreeMap;
import java.util.TreeSet;
import java.util.regex.Matcher;
import java.util.regex.Pattern;

/**
 * Long runs of calls, each answer held against a second, slow writing of the
 * document that goes other ways: all givings instead of a table, policies
 * instead of backward steps, partitions instead of sets.
 */
public final class ModelTests {
    private static final int RUNS = 1500;
    private static final int CALLS = 512;

    private final SmashedHours x = new SmashedHours();
    private final Model m = new Model();
    private final Random random;
    private final StringBuilder log = new StringBuilder();
    private int calls = 0;
    private int wrong = 0;

    private ModelTests(long seed) {
        random = new Random(seed);
    }

    public static void main(String[] args) {
        int wrongRuns = 0;
        long calls = 0;
        for (int seed = 0; seed < RUNS; seed++) {
            ModelTests run = new ModelTests(seed);
            run.go();
            calls += run.calls;
            if (run.wrong != 0) {
                wrongRuns++;
                System.out.println("seed " + seed + ":" + run.log);
            }
            if (wrongRuns > 3) {
                break;
            }
        }
        System.out.println(calls + " calls, " + wrongRuns + " runs wrong");
        if (wrongRuns != 0) {
            System.exit(1);
        }
    }

    private void due(String call, long got, long want) {
        calls++;
        if (wrong == 0) {
            log.append(' ').append(call).append('=').append(got);
        }
        if (got != want) {
            if (wrong == 0) {
                log.append(" <- due is ").append(want);
            }
            wrong++;
        }
    }

    private void go() {
        while (calls < CALLS && wrong == 0) {
            if (m.people.isEmpty() || random.nextInt(90) == 0) {
                tellHouse();
            } else if (random.nextInt(3) == 0) {
                ask();
            } else {
                act();
            }
        }
    }

    private void tellHouse() {
        String text = randomText();
        for (int i = 0; i < text.length() && calls < CALLS; i++) {
            int letter = text.charAt(i);
            due("type(" + letter + ")", x.type(letter), m.type(letter));
        }
        due("house()", x.house(), m.house());
        due("count(2)", x.count(2), m.text.length());
        if (random.nextBoolean()) {
            int had = m.text.length();
            m.text.setLength(0);
            due("clear()", x.clear(), had);
        }
    }

    private String randomText() {
        StringBuilder text = new StringBuilder();
        int size = random.nextInt(8) == 0 ? random.nextInt(3) : 2 + random.nextInt(5);
        int[] weights = {10, 20, 30, 40, 50, 60};
        boolean even = random.nextBoolean();
        for (int p = 0; p < size; p++) {
            int weight = even ? weights[random.nextInt(6)] : 1 + random.nextInt(60);
            int nights = 1 + random.nextInt(random.nextBoolean() ? 9 : 3);
            text.append("p").append(weight).append(' ').append(nights).append(';');
        }
        for (int p = 0; p < size; p++) {
            if (random.nextInt(6) != 0) {
                text.append(randomWants(p, size));
            }
        }
        if (random.nextBoolean()) {
            text.append("l").append(random.nextInt(3)).append(';');
        }
        int spoils = random.nextInt(4) == 0 ? 1 + random.nextInt(2) : 0;
        for (int i = 0; i < spoils; i++) {
            spoil(text);
        }
        return text.toString();
    }

    private String randomWants(int p, int size) {
        StringBuilder item = new StringBuilder("w").append(p);
        List<Integer> hours = new ArrayList<>();
        for (int h = 0; h < size; h++) {
            hours.add(h);
        }
        int many = random.nextInt(5);
        for (int k = 0; k < many && !hours.isEmpty(); k++) {
            item.append(' ').append(hours.remove(random.nextInt(hours.size())));
        }
        return item.append(';').toString();
    }

    private void spoil(StringBuilder text) {
        String signs = "pwl;0123456789  x\u00e9";
        char sign = signs.charAt(random.nextInt(signs.length()));
        int at = random.nextInt(text.length() + 1);
        switch (random.nextInt(4)) {
            case 0:
                text.insert(at, sign);
                break;
            case 1:
                if (at < text.length()) {
                    text.deleteCharAt(at);
                }
                break;
            case 2:
                if (at < text.length()) {
                    text.setCharAt(at, sign);
                }
                break;
            default:
                text.setLength(at);
        }
    }

    /** Mostly a number that may be, at times one beside, at times one so far off that it might wrap around. */
    private int pick(int least, int most) {
        if (random.nextInt(60) == 0) {
            return Checks.FAR[random.nextInt(Checks.FAR.length)];
        }
        return least - (random.nextInt(20) == 0 ? 1 : 0) + random.nextInt(most - least + 1 + (random.nextInt(10) == 0 ? 2 : 0));
    }

    private int somebody() {
        return pick(0, Math.max(0, m.people.size() - 1));
    }

    private int someSet() {
        return pick(0, (1 << m.people.size()) - 1);
    }

    private void act() {
        int p = somebody();
        switch (random.nextInt(14)) {
            case 0: case 1: case 2: case 3: case 4:
                due("gives(" + p + ")", x.gives(p), m.gives(p));
                break;
            case 5:
                due("takes(" + p + ")", x.takes(p), m.takes(p));
                break;
            case 6: case 7:
                due("night()", x.night(), m.night());
                break;
            case 8:
                int set = random.nextBoolean() ? m.join(0) : pick(0, (1 << m.bits.size()) - 1);
                due("joins(" + set + ")", x.joins(set), m.joins(set));
                break;
            case 9:
                int law = pick(0, 2);
                due("laws(" + law + ")", x.laws(law), m.laws(law));
                break;
            case 10: case 11:
                due("undo()", x.undo(), m.undo());
                break;
            case 12:
                int image = pick(0, 1);
                if (random.nextInt(3) != 0) {
                    due("keep(" + image + ")", x.keep(image), m.keep(image));
                } else {
                    due("back(" + image + ")", x.back(image), m.back(image));
                }
                break;
            default:
                tell();
        }
    }

    private void tell() {
        if (random.nextInt(6) == 0) {
            int had = m.told.size();
            m.told.clear();
            due("forget()", x.forget(), had);
            return;
        }
        int set = someSet();
        int p = somebody();
        // What some law makes of it, so that some law may fit at last.
        List<Integer> own = new ArrayList<>();
        for (int i = 0; i < m.people.size(); i++) {
            own.add(i);
        }
        int hour = somebody();
        if (set > 0 && set < 1 << m.people.size() && p >= 0 && p < m.people.size() && random.nextInt(4) != 0) {
            Integer got = m.play(own, set, random.nextInt(3)).get.get(p);
            hour = got == null ? hour : got;
        }
        due("tells(" + set + "," + p + "," + hour + ")", x.tells(set, p, hour), m.tells(set, p, hour));
        due("fits()", x.fits(), m.fits());
    }

    private void ask() {
        int p = somebody();
        int what = pick(0, 1);
        switch (random.nextInt(16)) {
            case 0: {
                int of = pick(0, 4);
                due("person(" + p + "," + of + ")", x.person(p, of), m.person(p, of));
                break;
            }
            case 1: {
                int k = pick(0, 3);
                due("wants(" + p + "," + k + ")", x.wants(p, k), m.wants(p, k));
                break;
            }
            case 2: {
                int k = pick(0, 7);
                due("bit(" + k + ")", x.bit(k), m.bit(k));
                break;
            }
            case 3: case 4: {
                int of = pick(0, 6);
                due("now(" + of + ")", x.now(of), m.now(of));
                break;
            }
            case 5:
                due("would(" + p + ")", x.would(p), m.would(p));
                break;
            case 6: {
                int set = someSet();
                due("served(" + set + ")", x.served(set), m.served(set));
                break;
            }
            case 7: {
                int hour = somebody();
                due("get(" + p + "," + hour + ")", x.get(p, hour), m.get(p, hour));
                break;
            }
            case 8:
                due("most(" + what + ")", x.most(what), m.most(what));
                break;
            case 9: {
                int who = random.nextInt(4) == 0 ? -1 : p;
                due("could(" + who + ")", x.could(who), m.could(who));
                break;
            }
            case 10: {
                int tenths = pick(0, 10);
                due("odds(" + p + "," + tenths + "," + what + ")", x.odds(p, tenths, what), m.odds(p, tenths, what));
                break;
            }
            case 11: {
                int of = pick(0, 2);
                due("join(" + of + ")", x.join(of), m.join(of));
                break;
            }
            case 12:
                askStop(what);
                break;
            case 13: {
                int kind = pick(0, 5);
                due("rate(" + kind + "," + p + ")", x.rate(kind, p), m.rate(kind, p));
                break;
            }
            case 14: {
                int of = pick(0, 2);
                due("count(" + of + ")", x.count(of), m.count(of));
                break;
            }
            default:
                due("trace()", x.trace(), m.trace);
        }
    }

    private void askStop(int what) {
        int n = pick(0, 5);
        int tenths = pick(0, 10);
        int v = pick(0, 99);
        int c = random.nextBoolean() ? pick(0, 99) : pick(0, 9);
        due("stop(" + n + "," + tenths + "," + v + "," + c + "," + what + ")", x.stop(n, tenths, v, c, what),
            m.stop(n, tenths, v, c, what));
    }

    /** A fraction of longs. */
    private record Ratio(long upper, long lower) {
        static Ratio of(long upper, long lower) {
            return new Ratio(upper, lower);
        }

        Ratio plus(Ratio o) {
            return of(upper * o.lower + o.upper * lower, lower * o.lower).least();
        }

        Ratio times(Ratio o) {
            return of(upper * o.upper, lower * o.lower).least();
        }

        Ratio least() {
            long a = Math.abs(upper);
            long b = lower;
            while (b != 0) {
                long rest = a % b;
                a = b;
                b = rest;
            }
            return of(upper / a, lower / a);
        }

        boolean above(Ratio o) {
            return upper * o.lower > o.upper * lower;
        }

        int answer(int what) {
            Ratio r = least();
            return (int) (what == 0 ? r.upper : r.lower);
        }
    }

    private record Person(int weight, int nights, List<Integer> wants) {
    }

    private record Tale(int set, int p, int hour) {
    }

    private record Outcome(Map<Integer, Integer> get, List<Integer> lumps, int rings) {
    }

    private record State(List<Integer> has, List<Integer> left, TreeSet<Integer> silk, List<Integer> bits, int made, int gone, int law) {
    }

    private static final class Model {
        final StringBuilder text = new StringBuilder();
        List<Person> people = new ArrayList<>();
        List<Integer> has = new ArrayList<>();
        List<Integer> left = new ArrayList<>();
        TreeSet<Integer> silk = new TreeSet<>();
        List<Integer> bits = new ArrayList<>();
        int made = 0;
        int gone = 0;
        int law = 0;
        Deque<State> past = new ArrayDeque<>();
        State[] images = new State[2];
        final List<Tale> told = new ArrayList<>();
        long trace = 0;

        int type(int letter) {
            if (letter < 0 || letter > 255) {
                return -1;
            }
            if (text.length() == 150) {
                return -3;
            }
            text.append((char) letter);
            return text.length();
        }

        // A token at a time; the item so far says what may come next.
        int house() {
            Matcher tokens = Pattern.compile("[0-9]+|[^ ]", Pattern.DOTALL).matcher(text);
            List<Person> read = new ArrayList<>();
            List<String> item = new ArrayList<>();
            int newLaw = -1;
            int items = 0;
            while (tokens.find()) {
                String t = tokens.group();
                if (!fits(item, t, read, newLaw)) {
                    return -10 - tokens.start();
                }
                item.add(t);
                if (!t.equals(";")) {
                    continue;
                }
                items++;
                if (item.get(0).equals("p")) {
                    read.add(new Person(Integer.parseInt(item.get(1)), Integer.parseInt(item.get(2)), List.of()));
                } else if (item.get(0).equals("l")) {
                    newLaw = Integer.parseInt(item.get(1));
                } else {
                    int a = Integer.parseInt(item.get(1));
                    List<Integer> row = new ArrayList<>();
                    for (String w : item.subList(2, item.size() - 1)) {
                        row.add(Integer.parseInt(w));
                    }
                    read.set(a, new Person(read.get(a).weight, read.get(a).nights, row));
                }
                item.clear();
            }
            if (!item.isEmpty()) {
                return -10 - text.length();
            }
            begin(read, Math.max(0, newLaw));
            return items;
        }

        private static boolean fits(List<String> item, String t, List<Person> read, int newLaw) {
            if (item.isEmpty()) {
                return t.equals("p") && read.size() < 6 || t.equals("w") || t.equals("l") && newLaw < 0;
            }
            boolean number = t.matches("0|[1-9][0-9]?");
            int n = number ? Integer.parseInt(t) : -1;
            switch (item.get(0) + item.size()) {
                case "p1":
                    return number && n >= 1 && n <= 60;
                case "p2":
                    return number && n >= 1 && n <= 9;
                case "p3": case "l2":
                    return t.equals(";");
                case "l1":
                    return number && n <= 2;
                case "w1":
                    return number && n < read.size();
                case "w6":
                    return t.equals(";");
                default:
                    boolean again = item.subList(2, item.size()).contains(t);
                    return t.equals(";") || number && n < read.size() && !again;
            }
        }

        private void begin(List<Person> read, int newLaw) {
            text.setLength(0);
            people = read;
            has = new ArrayList<>();
            left = new ArrayList<>();
            for (int p = 0; p < read.size(); p++) {
                has.add(p);
                left.add(read.get(p).nights);
            }
            silk = new TreeSet<>();
            bits = new ArrayList<>();
            made = 0;
            gone = 0;
            law = newLaw;
            past.clear();
            images = new State[2];
            told.clear();
        }

        private State state() {
            return new State(new ArrayList<>(has), new ArrayList<>(left), new TreeSet<>(silk), new ArrayList<>(bits), made, gone, law);
        }

        private void become(State s) {
            has = new ArrayList<>(s.has);
            left = new ArrayList<>(s.left);
            silk = new TreeSet<>(s.silk);
            bits = new ArrayList<>(s.bits);
            made = s.made;
            gone = s.gone;
            law = s.law;
        }

        private void remember() {
            past.push(state());
            if (past.size() > 10) {
                past.removeLast();
            }
        }

        private boolean there(int p) {
            return p >= 0 && p < people.size();
        }

        private static boolean in(int set, int p) {
            return (set & 1 << p) != 0;
        }

        private int silkBits() {
            int set = 0;
            for (int p : silk) {
                set |= 1 << p;
            }
            return set;
        }

        private boolean able(int p) {
            return has.get(p) >= 0 && left.get(p) > 0;
        }

        private boolean allAble(int set) {
            for (int p = 0; p < people.size(); p++) {
                if (in(set, p) && !able(p)) {
                    return false;
                }
            }
            return true;
        }

        Outcome play(List<Integer> hours, int set, int byLaw) {
            TreeMap<Integer, Integer> gift = new TreeMap<>();
            for (int p = 0; p < people.size(); p++) {
                if (in(set, p)) {
                    gift.put(p, hours.get(p));
                }
            }
            Map<Integer, Integer> get = new TreeMap<>();
            List<Integer> lumps = new ArrayList<>();
            int rings = 0;
            while (!gift.isEmpty()) {
                Map<Integer, Integer> points = new TreeMap<>();
                int out = -1;
                for (int p : gift.descendingKeySet()) {
                    Integer q = pointed(p, gift, byLaw);
                    if (q == null) {
                        out = p;
                    } else {
                        points.put(p, q);
                    }
                }
                if (out >= 0) {
                    lumps.add(gift.remove(out));
                    continue;
                }
                List<Integer> walk = new ArrayList<>();
                int at = gift.firstKey();
                while (!walk.contains(at)) {
                    walk.add(at);
                    at = points.get(at);
                }
                List<Integer> ring = walk.subList(walk.indexOf(at), walk.size());
                for (int p : ring) {
                    get.put(p, gift.get(points.get(p)));
                    rings++;
                }
                gift.keySet().removeAll(ring);
            }
            return new Outcome(get, lumps, rings);
        }

        private Integer pointed(int p, TreeMap<Integer, Integer> gift, int byLaw) {
            List<Integer> may = new ArrayList<>(people.get(p).wants);
            may.retainAll(gift.values());
            if (may.isEmpty()) {
                return null;
            }
            int mine = people.get(gift.get(p)).weight;
            // Sorting is stable, so like ones stay as they are in the wants.
            if (byLaw == 1) {
                may.sort((a, b) -> Math.abs(people.get(a).weight - mine) - Math.abs(people.get(b).weight - mine));
            } else if (byLaw == 2) {
                may.sort(null);
            }
            for (Map.Entry<Integer, Integer> e : gift.entrySet()) {
                if (e.getValue().equals(may.get(0))) {
                    return e.getKey();
                }
            }
            return null;
        }

        int person(int p, int what) {
            if (!there(p) || what < 0 || what > 4) {
                return -1;
            }
            int[] all = {people.get(p).weight, left.get(p), has.get(p), silk.contains(p) ? 1 : 0, people.get(p).wants.size()};
            return all[what];
        }

        int wants(int p, int k) {
            if (!there(p) || k < 0 || k > 3) {
                return -1;
            }
            return k < people.get(p).wants.size() ? people.get(p).wants.get(k) : -9;
        }

        int bit(int k) {
            if (k < 0 || k > 7) {
                return -1;
            }
            return k < bits.size() ? bits.get(k) : -9;
        }

        int now(int what) {
            if (what < 0 || what > 6) {
                return -1;
            }
            int own = 0;
            for (int p = 0; p < has.size(); p++) {
                own += has.get(p) == p ? 1 << p : 0;
            }
            int[] all = {gone, silkBits(), bits.size(), made, law, own, past.size()};
            return all[what];
        }

        int gives(int p) {
            if (!there(p)) {
                return -1;
            }
            if (!able(p) || silk.contains(p)) {
                return -2;
            }
            remember();
            silk.add(p);
            return silk.size();
        }

        int takes(int p) {
            if (!there(p)) {
                return -1;
            }
            if (!silk.contains(p)) {
                return -2;
            }
            remember();
            silk.remove(p);
            return silk.size();
        }

        int night() {
            if (gone == 999) {
                return -2;
            }
            remember();
            Outcome o = play(has, silkBits(), law);
            for (int p : silk) {
                left.set(p, left.get(p) - 1);
                has.set(p, o.get.getOrDefault(p, -9));
            }
            for (int hour : o.lumps) {
                if (bits.size() < 8) {
                    bits.add(people.get(hour).weight);
                }
            }
            silk.clear();
            gone++;
            return o.rings;
        }

        private int minutes(int set) {
            int sum = 0;
            for (int k = 0; k < bits.size(); k++) {
                sum += in(set, k) ? bits.get(k) : 0;
            }
            return sum;
        }

        int joins(int set) {
            if (set < 1 || set >= 1 << bits.size()) {
                return -1;
            }
            if (minutes(set) != 60) {
                return -2;
            }
            remember();
            for (int k = bits.size() - 1; k >= 0; k--) {
                if (in(set, k)) {
                    bits.remove(k);
                }
            }
            return ++made;
        }

        int laws(int to) {
            if (to < 0 || to > 2) {
                return -1;
            }
            if (to == law) {
                return -2;
            }
            remember();
            int was = law;
            law = to;
            return was;
        }

        int undo() {
            if (past.isEmpty()) {
                return -2;
            }
            become(past.pop());
            return past.size();
        }

        int would(int p) {
            if (!there(p)) {
                return -1;
            }
            return silk.contains(p) ? play(has, silkBits(), law).get.getOrDefault(p, -9) : -2;
        }

        int served(int set) {
            if (set < 0 || set >= 1 << people.size()) {
                return -1;
            }
            return allAble(set) ? play(has, set, law).rings : -2;
        }

        int get(int p, int hour) {
            if (!there(p) || !there(hour)) {
                return -1;
            }
            for (int many = 1; many <= people.size(); many++) {
                for (int set = 0; set < 1 << people.size(); set++) {
                    if (Integer.bitCount(set) == many && in(set, p) && allAble(set)
                        && play(has, set, law).get.getOrDefault(p, -9) == hour) {
                        return set;
                    }
                }
            }
            return -9;
        }

        int most(int what) {
            if (what < 0 || what > 1) {
                return -1;
            }
            for (int many = people.size(); many >= 0; many--) {
                for (int lumps = 0; lumps <= people.size(); lumps++) {
                    for (int set = 0; set < 1 << people.size(); set++) {
                        if (!allAble(set)) {
                            continue;
                        }
                        Outcome o = play(has, set, law);
                        if (o.rings == many && o.lumps.size() == lumps) {
                            return what == 0 ? set : many;
                        }
                    }
                }
            }
            return -1;
        }

        int could(int p) {
            if (p != -1 && !there(p)) {
                return -1;
            }
            List<Integer> who = new ArrayList<>();
            List<Integer> hours = new ArrayList<>();
            for (int q = 0; q < people.size(); q++) {
                if (has.get(q) >= 0) {
                    who.add(q);
                    hours.add(has.get(q));
                }
            }
            List<int[]> best = new ArrayList<>();
            tryAll(who, hours, new int[people.size()], 0, best);
            if (p == -1) {
                return wanted(best.get(0), who);
            }
            int hour = who.contains(p) ? best.get(0)[p] : -9;
            return people.get(p).wants.contains(hour) ? hour : -9;
        }

        private void tryAll(List<Integer> who, List<Integer> hours, int[] way, int i, List<int[]> best) {
            if (i == who.size()) {
                if (best.isEmpty() || better(way, best.get(0), who)) {
                    best.clear();
                    best.add(way.clone());
                }
                return;
            }
            for (int k = 0; k < hours.size(); k++) {
                List<Integer> rest = new ArrayList<>(hours);
                way[who.get(i)] = rest.remove(k);
                tryAll(who, rest, way, i + 1, best);
            }
        }

        private int wanted(int[] way, List<Integer> who) {
            int many = 0;
            for (int p : who) {
                many += people.get(p).wants.contains(way[p]) ? 1 : 0;
            }
            return many;
        }

        private boolean better(int[] a, int[] b, List<Integer> who) {
            if (wanted(a, who) != wanted(b, who)) {
                return wanted(a, who) > wanted(b, who);
            }
            for (int p : who) {
                int mine = people.get(p).wants.contains(a[p]) ? a[p] : 99;
                int other = people.get(p).wants.contains(b[p]) ? b[p] : 99;
                if (mine != other) {
                    return mine < other;
                }
            }
            return false;
        }

        int odds(int p, int x, int what) {
            if (!there(p) || x < 0 || x > 10 || what < 0 || what > 1) {
                return -1;
            }
            return (able(p) ? oddsFrom(0, p, 1 << p, x) : Ratio.of(0, 1)).answer(what);
        }

        private Ratio oddsFrom(int q, int p, int set, int x) {
            if (q == people.size()) {
                return Ratio.of(play(has, set, law).get.containsKey(p) ? 1 : 0, 1);
            }
            if (q == p || !able(q)) {
                return oddsFrom(q + 1, p, set, x);
            }
            Ratio comes = oddsFrom(q + 1, p, set | 1 << q, x).times(Ratio.of(x, 10));
            return comes.plus(oddsFrom(q + 1, p, set, x).times(Ratio.of(10 - x, 10)));
        }

        int join(int what) {
            if (what < 0 || what > 2) {
                return -1;
            }
            if (what == 2) {
                return hours(0, new int[bits.size()]);
            }
            for (int lacking = 0; lacking <= 60; lacking++) {
                for (int set = 0; set < 1 << bits.size(); set++) {
                    if (minutes(set) == 60 - lacking) {
                        return what == 0 ? set : lacking;
                    }
                }
            }
            return -1;
        }

        /** Every bit to some heap: those of 60 count. */
        private int hours(int k, int[] heaps) {
            int best = 0;
            if (k == bits.size()) {
                for (int heap : heaps) {
                    best += heap == 60 ? 1 : 0;
                }
                return best;
            }
            for (int i = 0; i <= k; i++) {
                heaps[i] += bits.get(k);
                best = Math.max(best, hours(k + 1, heaps));
                heaps[i] -= bits.get(k);
            }
            return best;
        }

        int tells(int set, int p, int hour) {
            if (set < 1 || set >= 1 << people.size() || !there(p) || !there(hour) || !in(set, p) || !in(set, hour)) {
                return -1;
            }
            if (told.size() == 6) {
                return -3;
            }
            told.add(new Tale(set, p, hour));
            return told.size();
        }

        int fits() {
            List<Integer> own = new ArrayList<>();
            for (int p = 0; p < people.size(); p++) {
                own.add(p);
            }
            int laws = 7;
            for (Tale t : told) {
                for (int by = 0; by < 3; by++) {
                    if (play(own, t.set, by).get.getOrDefault(t.p, -9) != t.hour) {
                        laws &= ~(1 << by);
                    }
                }
            }
            return laws;
        }

        /** He means to come m nights at most; the best m of all. */
        int stop(int n, int x, int v, int c, int what) {
            if (n < 0 || n > 5 || x < 0 || x > 10 || v < 0 || v > 99 || c < 0 || c > 99 || what < 0 || what > 1) {
                return -1;
            }
            Ratio best = Ratio.of(0, 1);
            for (int m = 1; m <= n; m++) {
                Ratio worth = Ratio.of(0, 1);
                Ratio still = Ratio.of(1, 1);
                for (int i = 0; i < m; i++) {
                    worth = worth.plus(still.times(Ratio.of(x * v - 10 * c, 10)));
                    still = still.times(Ratio.of(10 - x, 10));
                }
                best = worth.above(best) ? worth : best;
            }
            return best.answer(what);
        }

        int rate(int kind, int p) {
            if (kind < 0 || kind > 5 || !there(p)) {
                return -1000000;
            }
            int weight = people.get(p).weight;
            int wanting = 0;
            for (Person q : people) {
                wanting += q.wants.contains(p) ? 1 : 0;
            }
            int owner = has.contains(p) ? has.indexOf(p) : 10;
            int[] marks = {1, 11, 101, 1011, 10101, 100001};
            int[] rates = {weight, weight + wanting, weight - left.get(p), 2 * (weight + wanting),
                weight - left.get(p) + owner, weight + gone};
            trace += marks[kind];
            return rates[kind];
        }

        int keep(int image) {
            if (image < 0 || image > 1) {
                return -1;
            }
            images[image] = state();
            return gone;
        }

        int back(int image) {
            if (image < 0 || image > 1) {
                return -1;
            }
            if (images[image] == null) {
                return -2;
            }
            become(images[image]);
            past.clear();
            return gone;
        }

        int count(int what) {
            if (what < 0 || what > 2) {
                return -1;
            }
            return new int[] {people.size(), told.size(), text.length()}[what];
        }
    }
}
