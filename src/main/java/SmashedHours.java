/**
 * A house of people who give their watches to be smashed in a silk, and get
 * back whole some other hour that was lost. The document is ../shared/DOC.md.
 *
 * Every row is made in the constructors and used again: no call makes an
 * object, so a run of calls stays small however long it is.
 */
public final class SmashedHours {

    public static final int BAD = -1, STATE = -2, FULL = -3, NONE = -9;
    public static final int NO = -1000000;

    private static final int PEOPLE = 6;
    private static final int WANTS = 4;
    private static final int LAWS = 3;
    private static final int BITS = 8;
    private static final int LETTERS = 150;
    private static final int MINUTES = 60;
    private static final int MOST_LEFT = 9;
    private static final int MOST_NIGHTS = 999;
    private static final int KNOWN = 10;
    private static final int TALES = 6;
    private static final int IMAGES = 2;
    private static final int TENTHS = 10;
    private static final int FAULTS = -10;
    private static final int NOBODY = -1;

    private static final int FIRST_WANTED = 0;
    private static final int NEAREST = 1;

    private static final int NOBODY_HAS_IT = 10;

    /** Who has which hour, when everybody has his own. */
    private static final int[] OWN = {0, 1, 2, 3, 4, 5};

    private final Script script = new Script();
    private final House people = new House();
    private final Affairs here = new Affairs();
    private final History history = new History();
    private final Affairs[] images = new Affairs[IMAGES];
    private final boolean[] kept = new boolean[IMAGES];
    private final Silk silk = new Silk(people);
    private final Sharing sharing = new Sharing();
    private final Lumps lumps = new Lumps();
    private final int[] toldSet = new int[TALES];
    private final int[] toldWho = new int[TALES];
    private final int[] toldHour = new int[TALES];
    private int told;
    private long marks;

    public SmashedHours() {
        for (int i = 0; i < IMAGES; i++) {
            images[i] = new Affairs();
        }
    }

    // ---- the house

    public int type(int letter) {
        if (!within(letter, 0, 255)) {
            return BAD;
        }
        return script.add(letter) ? script.length : FULL;
    }

    public int clear() {
        int had = script.length;
        script.length = 0;
        return had;
    }

    public int house() {
        int items = script.read();
        if (items < 0) {
            return items;
        }
        people.become(script.draft);
        script.length = 0;
        here.begin(people);
        history.known = 0;
        told = 0;
        for (int i = 0; i < IMAGES; i++) {
            kept[i] = false;
        }
        return items;
    }

    public int person(int p, int what) {
        if (!people.knows(p)) {
            return BAD;
        }
        switch (what) {
            case 0:
                return people.weight[p];
            case 1:
                return here.left[p];
            case 2:
                return here.has[p];
            case 3:
                return holds(here.given, p) ? 1 : 0;
            case 4:
                return people.wantCount[p];
            default:
                return BAD;
        }
    }

    public int wants(int p, int k) {
        if (!people.knows(p) || !within(k, 0, WANTS - 1)) {
            return BAD;
        }
        return k < people.wantCount[p] ? people.wanted[p][k] : NONE;
    }

    public int bit(int k) {
        if (!within(k, 0, BITS - 1)) {
            return BAD;
        }
        return k < here.bitCount ? here.bits[k] : NONE;
    }

    public int now(int what) {
        switch (what) {
            case 0:
                return here.gone;
            case 1:
                return here.given;
            case 2:
                return here.bitCount;
            case 3:
                return here.made;
            case 4:
                return here.law;
            case 5:
                return here.withTheirOwn();
            case 6:
                return history.known;
            default:
                return BAD;
        }
    }

    // ---- what is done

    public int gives(int p) {
        if (!people.knows(p)) {
            return BAD;
        }
        if (!holds(here.able(), p) || holds(here.given, p)) {
            return STATE;
        }
        history.remember(here);
        here.given |= 1 << p;
        return Integer.bitCount(here.given);
    }

    public int takes(int p) {
        if (!people.knows(p)) {
            return BAD;
        }
        if (!holds(here.given, p)) {
            return STATE;
        }
        history.remember(here);
        here.given &= ~(1 << p);
        return Integer.bitCount(here.given);
    }

    public int night() {
        if (here.gone >= MOST_NIGHTS) {
            return STATE;
        }
        history.remember(here);
        silk.play(here.has, here.given, here.law);
        here.pass(silk, people);
        return Integer.bitCount(silk.ringed);
    }

    public int joins(int set) {
        if (set == 0 || !isSetOf(set, here.bitCount)) {
            return BAD;
        }
        if (here.minutes(set) != MINUTES) {
            return STATE;
        }
        history.remember(here);
        here.dropBits(set);
        here.made++;
        return here.made;
    }

    public int laws(int law) {
        if (!within(law, 0, LAWS - 1)) {
            return BAD;
        }
        if (law == here.law) {
            return STATE;
        }
        history.remember(here);
        int was = here.law;
        here.law = law;
        return was;
    }

    public int undo() {
        return history.restore(here) ? history.known : STATE;
    }

    // ---- nights

    public int would(int p) {
        if (!people.knows(p)) {
            return BAD;
        }
        if (!holds(here.given, p)) {
            return STATE;
        }
        silk.play(here.has, here.given, here.law);
        return silk.got[p];
    }

    public int served(int set) {
        if (!isSetOf(set, people.size)) {
            return BAD;
        }
        return isWithin(set, here.able()) ? servedOf(set) : STATE;
    }

    public int get(int p, int hour) {
        if (!people.knows(p) || !people.knows(hour)) {
            return BAD;
        }
        int able = here.able();
        int best = NONE;
        int fewest = PEOPLE + 1;
        for (int set = 1; set < 1 << people.size; set++) {
            if (!holds(set, p) || !isWithin(set, able) || Integer.bitCount(set) >= fewest) {
                continue;
            }
            silk.play(here.has, set, here.law);
            if (silk.got[p] == hour) {
                best = set;
                fewest = Integer.bitCount(set);
            }
        }
        return best;
    }

    public int most(int what) {
        if (!within(what, 0, 1)) {
            return BAD;
        }
        int able = here.able();
        int best = 0;
        int most = 0;
        for (int set = 1; set < 1 << people.size; set++) {
            if (!isWithin(set, able)) {
                continue;
            }
            int rings = servedOf(set);
            // Whoever is in no ring is a lump: of as many served, fewer people are fewer lumps.
            boolean fewerLumps = rings == most && Integer.bitCount(set) < Integer.bitCount(best);
            if (rings > most || fewerLumps) {
                best = set;
                most = rings;
            }
        }
        return what == 0 ? best : most;
    }

    public int could(int p) {
        if (p != -1 && !people.knows(p)) {
            return BAD;
        }
        sharing.weigh(people, here);
        return p == -1 ? sharing.mostServed() : sharing.hourOf(p, people, here);
    }

    public int odds(int p, int x, int what) {
        if (!people.knows(p) || !within(x, 0, TENTHS) || !within(what, 0, 1)) {
            return BAD;
        }
        int able = here.able();
        if (!holds(able, p)) {
            return part(0, 1, what);
        }
        int others = able & ~(1 << p);
        int upper = 0;
        for (int set = 0; set < 1 << people.size; set++) {
            if (!isWithin(set, others)) {
                continue;
            }
            silk.play(here.has, set | 1 << p, here.law);
            if (holds(silk.ringed, p)) {
                int come = Integer.bitCount(set);
                int stay = Integer.bitCount(others) - come;
                upper += power(x, come) * power(TENTHS - x, stay);
            }
        }
        return part(upper, power(TENTHS, Integer.bitCount(others)), what);
    }

    // ---- bits

    public int join(int what) {
        switch (what) {
            case 0:
                return lumps.fullest(here);
            case 1:
                return MINUTES - here.minutes(lumps.fullest(here));
            case 2:
                return lumps.mostHours(here);
            default:
                return BAD;
        }
    }

    // ---- laws told

    public int tells(int set, int p, int hour) {
        if (!isSetOf(set, people.size) || !people.knows(p) || !people.knows(hour)) {
            return BAD;
        }
        if (!holds(set, p) || !holds(set, hour)) {
            return BAD;
        }
        if (told >= TALES) {
            return FULL;
        }
        toldSet[told] = set;
        toldWho[told] = p;
        toldHour[told] = hour;
        told++;
        return told;
    }

    public int forget() {
        int had = told;
        told = 0;
        return had;
    }

    public int fits() {
        int fitting = 0;
        for (int law = 0; law < LAWS; law++) {
            if (allToldIsSoBy(law)) {
                fitting |= 1 << law;
            }
        }
        return fitting;
    }

    public int stop(int n, int x, int v, int c, int what) {
        if (!within(n, 0, 5) || !within(x, 0, TENTHS) || !within(what, 0, 1)) {
            return BAD;
        }
        if (!within(v, 0, 99) || !within(c, 0, 99)) {
            return BAD;
        }
        int upper = 0;
        int lower = 1;
        for (int nights = 1; nights <= n; nights++) {
            int coming = x * v * lower + (TENTHS - x) * upper - c * TENTHS * lower;
            upper = Math.max(0, coming);
            lower = lower * TENTHS;
        }
        return part(upper, lower, what);
    }

    // ---- kinds, images

    public int rate(int kind, int p) {
        if (!people.knows(p)) {
            return NO;
        }
        switch (kind) {
            case 0:
                return asHour(p);
            case 1:
                return asRiver(p);
            case 2:
                return asBand(p);
            case 3:
                return asDentist(p);
            case 4:
                return asWidow(p);
            case 5:
                return asMinute(p);
            default:
                return NO;
        }
    }

    public int keep(int image) {
        if (!within(image, 0, IMAGES - 1)) {
            return BAD;
        }
        images[image].become(here);
        kept[image] = true;
        return here.gone;
    }

    public int back(int image) {
        if (!within(image, 0, IMAGES - 1)) {
            return BAD;
        }
        if (!kept[image]) {
            return STATE;
        }
        here.become(images[image]);
        history.known = 0;
        return here.gone;
    }

    public int count(int what) {
        switch (what) {
            case 0:
                return people.size;
            case 1:
                return told;
            case 2:
                return script.length;
            default:
                return BAD;
        }
    }

    public long trace() {
        return marks;
    }

    // ---- what the calls above share

    private int servedOf(int set) {
        silk.play(here.has, set, here.law);
        return Integer.bitCount(silk.ringed);
    }

    private boolean allToldIsSoBy(int law) {
        for (int i = 0; i < told; i++) {
            silk.play(OWN, toldSet[i], law);
            if (silk.got[toldWho[i]] != toldHour[i]) {
                return false;
            }
        }
        return true;
    }

    // Each kind asks the kind above it once, and leaves its own mark on the trace.

    private int asHour(int p) {
        marks += 1;
        return people.weight[p];
    }

    private int asRiver(int p) {
        marks += 10;
        return asHour(p) + people.howManyWant(p);
    }

    private int asBand(int p) {
        marks += 100;
        return asHour(p) - here.left[p];
    }

    private int asDentist(int p) {
        marks += 1000;
        return 2 * asRiver(p);
    }

    private int asWidow(int p) {
        marks += 10000;
        int owner = here.whoHas(p);
        return asBand(p) + (owner == NOBODY ? NOBODY_HAS_IT : owner);
    }

    private int asMinute(int p) {
        marks += 100000;
        return asHour(p) + here.gone;
    }

    private static boolean within(int number, int least, int most) {
        return number >= least && number <= most;
    }

    private static boolean holds(int set, int i) {
        return (set >> i & 1) == 1;
    }

    private static boolean isWithin(int set, int whole) {
        return (set & ~whole) == 0;
    }

    private static boolean isSetOf(int set, int size) {
        return within(set, 0, (1 << size) - 1);
    }

    private static int power(int base, int times) {
        int product = 1;
        for (int i = 0; i < times; i++) {
            product *= base;
        }
        return product;
    }

    /** The upper (0) or lower (1) number of a fraction in least terms. */
    private static int part(int upper, int lower, int what) {
        int divisor = Math.max(1, greatestDivisor(upper, lower));
        return (what == 0 ? upper : lower) / divisor;
    }

    private static int greatestDivisor(int a, int b) {
        int larger = a;
        int smaller = b;
        // Each two steps halve the numbers, so an int needs fewer than 64.
        for (int step = 0; step < 64 && smaller != 0; step++) {
            int rest = larger % smaller;
            larger = smaller;
            smaller = rest;
        }
        return larger;
    }

    /** The people as the text told them; no call but house() changes them. */
    private static final class House {
        final int[] weight = new int[PEOPLE];
        final int[] nights = new int[PEOPLE];
        final int[][] wanted = new int[PEOPLE][WANTS];
        final int[] wantCount = new int[PEOPLE];
        /** The same wants as bits, for the calls that do not care for their order. */
        final int[] wantBits = new int[PEOPLE];
        int size;
        int law;

        void empty() {
            size = 0;
            law = 0;
        }

        boolean knows(int p) {
            return p >= 0 && p < size;
        }

        boolean addPerson(int minutes, int mayGive) {
            if (size >= PEOPLE) {
                return false;
            }
            weight[size] = minutes;
            nights[size] = mayGive;
            dropWants(size);
            size++;
            return true;
        }

        void dropWants(int p) {
            wantCount[p] = 0;
            wantBits[p] = 0;
        }

        boolean addWant(int p, int hour) {
            if (!knows(hour) || holds(wantBits[p], hour) || wantCount[p] >= WANTS) {
                return false;
            }
            wanted[p][wantCount[p]] = hour;
            wantCount[p]++;
            wantBits[p] |= 1 << hour;
            return true;
        }

        int howManyWant(int hour) {
            int many = 0;
            for (int p = 0; p < size; p++) {
                if (holds(wantBits[p], hour)) {
                    many++;
                }
            }
            return many;
        }

        void become(House other) {
            size = other.size;
            law = other.law;
            for (int p = 0; p < size; p++) {
                weight[p] = other.weight[p];
                nights[p] = other.nights[p];
                wantCount[p] = other.wantCount[p];
                wantBits[p] = other.wantBits[p];
                for (int k = 0; k < WANTS; k++) {
                    wanted[p][k] = other.wanted[p][k];
                }
            }
        }
    }

    /** The text, and the reading of it into a draft, so that a fault leaves all as it was. */
    private static final class Script {
        private static final int END = 256;
        private static final int NUMBER = 257;
        private static final int WRONG = 258;

        final House draft = new House();
        private final int[] letters = new int[LETTERS];
        int length;
        private int place;
        private int tokenPlace;
        private int token;
        private int value;
        private boolean lawTold;

        boolean add(int letter) {
            if (length >= LETTERS) {
                return false;
            }
            letters[length] = letter;
            length++;
            return true;
        }

        /** How many items there are, or FAULTS less the place of the fault. */
        int read() {
            draft.empty();
            place = 0;
            lawTold = false;
            int items = 0;
            step();
            // Each item has letters of its own, so there are fewer items than letters.
            for (int i = 0; i < LETTERS && token != END; i++) {
                boolean right = token == 'p' ? readPerson() : token == 'w' ? readWants() : token == 'l' && readLaw();
                if (!right) {
                    return FAULTS - tokenPlace;
                }
                items++;
                step();
            }
            return items;
        }

        private boolean readPerson() {
            if (draft.size >= PEOPLE || !stepToNumber(1, MINUTES)) {
                return false;
            }
            int minutes = value;
            if (!stepToNumber(1, MOST_LEFT)) {
                return false;
            }
            int mayGive = value;
            return stepToEnd() && draft.addPerson(minutes, mayGive);
        }

        private boolean readWants() {
            if (!stepToNumber(0, draft.size - 1)) {
                return false;
            }
            int p = value;
            draft.dropWants(p);
            step();
            for (int k = 0; k < WANTS && token == NUMBER; k++) {
                if (!draft.addWant(p, value)) {
                    return false;
                }
                step();
            }
            return token == ';';
        }

        private boolean readLaw() {
            if (lawTold || !stepToNumber(0, LAWS - 1)) {
                return false;
            }
            lawTold = true;
            draft.law = value;
            return stepToEnd();
        }

        private boolean stepToNumber(int least, int most) {
            step();
            return token == NUMBER && within(value, least, most);
        }

        private boolean stepToEnd() {
            step();
            return token == ';';
        }

        private void step() {
            while (place < length && letters[place] == ' ') {
                place++;
            }
            tokenPlace = place;
            if (place >= length) {
                token = END;
            } else if (isDigit(letters[place])) {
                token = readNumber() ? NUMBER : WRONG;
            } else {
                // A letter that is no token stands for itself: no item takes it.
                token = letters[place];
                place++;
            }
        }

        private boolean readNumber() {
            value = 0;
            while (place < length && isDigit(letters[place])) {
                // Beyond 99 it is wrong already, and growing on it could wrap around.
                if (value <= 99) {
                    value = value * 10 + letters[place] - '0';
                }
                place++;
            }
            boolean zeroAhead = letters[tokenPlace] == '0' && place - tokenPlace > 1;
            return value <= 99 && !zeroAhead;
        }

        private static boolean isDigit(int letter) {
            return letter >= '0' && letter <= '9';
        }
    }

    /** How things are now: all that is undone by undo() and kept by images. */
    private static final class Affairs {
        final int[] has = new int[PEOPLE];
        final int[] left = new int[PEOPLE];
        final int[] bits = new int[BITS];
        int bitCount;
        int given;
        int made;
        int gone;
        int law;

        Affairs() {
            for (int p = 0; p < PEOPLE; p++) {
                has[p] = NONE;
            }
        }

        void begin(House people) {
            for (int p = 0; p < PEOPLE; p++) {
                // Who is not there has nothing, so that no loop over all finds him.
                has[p] = people.knows(p) ? p : NONE;
                left[p] = people.knows(p) ? people.nights[p] : 0;
            }
            bitCount = 0;
            given = 0;
            made = 0;
            gone = 0;
            law = people.law;
        }

        void become(Affairs other) {
            for (int p = 0; p < PEOPLE; p++) {
                has[p] = other.has[p];
                left[p] = other.left[p];
            }
            for (int k = 0; k < BITS; k++) {
                bits[k] = other.bits[k];
            }
            bitCount = other.bitCount;
            given = other.given;
            made = other.made;
            gone = other.gone;
            law = other.law;
        }

        /** The people who have an hour and nights left, as bits. */
        int able() {
            int set = 0;
            for (int p = 0; p < PEOPLE; p++) {
                if (has[p] != NONE && left[p] > 0) {
                    set |= 1 << p;
                }
            }
            return set;
        }

        int withTheirOwn() {
            int set = 0;
            for (int p = 0; p < PEOPLE; p++) {
                if (has[p] == p) {
                    set |= 1 << p;
                }
            }
            return set;
        }

        int whoHas(int hour) {
            for (int p = 0; p < PEOPLE; p++) {
                if (has[p] == hour) {
                    return p;
                }
            }
            return NOBODY;
        }

        int minutes(int set) {
            int sum = 0;
            for (int k = 0; k < bitCount; k++) {
                if (holds(set, k)) {
                    sum += bits[k];
                }
            }
            return sum;
        }

        void dropBits(int set) {
            int stay = 0;
            for (int k = 0; k < bitCount; k++) {
                if (!holds(set, k)) {
                    bits[stay] = bits[k];
                    stay++;
                }
            }
            bitCount = stay;
        }

        /** The night that the silk has played out with those who gave comes true. */
        void pass(Silk silk, House people) {
            for (int p = 0; p < PEOPLE; p++) {
                if (holds(given, p)) {
                    left[p]--;
                    has[p] = silk.got[p];
                }
            }
            for (int i = 0; i < silk.lumpCount && bitCount < BITS; i++) {
                bits[bitCount] = people.weight[silk.lumps[i]];
                bitCount++;
            }
            given = 0;
            gone++;
        }
    }

    /** The latest affairs ahead of each deed, in a round of rows: the oldest is written over. */
    private static final class History {
        private final Affairs[] rows = new Affairs[KNOWN];
        private int next;
        int known;

        History() {
            for (int i = 0; i < KNOWN; i++) {
                rows[i] = new Affairs();
            }
        }

        void remember(Affairs affairs) {
            rows[next].become(affairs);
            next = next + 1 < KNOWN ? next + 1 : 0;
            known = Math.min(KNOWN, known + 1);
        }

        boolean restore(Affairs affairs) {
            if (known == 0) {
                return false;
            }
            next = next > 0 ? next - 1 : KNOWN - 1;
            known--;
            affairs.become(rows[next]);
            return true;
        }
    }

    /** A night played out with any set of people and any hours, beside how things are. */
    private static final class Silk {
        private final House people;
        private final int[] gave = new int[PEOPLE];
        /** By hour: who of those who are left gave it. */
        private final int[] giver = new int[PEOPLE];
        private final int[] aims = new int[PEOPLE];
        private int left;
        final int[] got = new int[PEOPLE];
        /** The hours that are lumps, in the order in which they became so. */
        final int[] lumps = new int[PEOPLE];
        int lumpCount;
        int ringed;

        Silk(House people) {
            this.people = people;
        }

        void play(int[] has, int set, int law) {
            lay(has, set);
            // Each round lets one out at least.
            for (int round = 0; round < PEOPLE && left != 0; round++) {
                int aimless = aimAll(law);
                if (aimless == NOBODY) {
                    goRound();
                } else {
                    smash(aimless);
                }
            }
        }

        private void lay(int[] has, int set) {
            left = 0;
            lumpCount = 0;
            ringed = 0;
            for (int hour = 0; hour < PEOPLE; hour++) {
                giver[hour] = NOBODY;
                got[hour] = NONE;
            }
            for (int p = 0; p < people.size; p++) {
                if (holds(set, p) && people.knows(has[p])) {
                    left |= 1 << p;
                    gave[p] = has[p];
                    giver[has[p]] = p;
                }
            }
        }

        /** Lets each who is left point; the lowest who points at nobody ends it, as he is out. */
        private int aimAll(int law) {
            for (int p = 0; p < people.size; p++) {
                if (!holds(left, p)) {
                    continue;
                }
                aims[p] = aimOf(p, law);
                if (aims[p] == NOBODY) {
                    return p;
                }
            }
            return NOBODY;
        }

        private int aimOf(int p, int law) {
            int aim = NOBODY;
            int least = 0;
            for (int k = 0; k < people.wantCount[p]; k++) {
                int hour = people.wanted[p][k];
                if (giver[hour] == NOBODY) {
                    continue;
                }
                int distance = distance(p, k, law);
                if (aim == NOBODY || distance < least) {
                    aim = giver[hour];
                    least = distance;
                }
            }
            return aim;
        }

        /** How far the k-th of his wants is from the one that the law lets him point at. */
        private int distance(int p, int k, int law) {
            int hour = people.wanted[p][k];
            if (law == FIRST_WANTED) {
                return k;
            }
            if (law == NEAREST) {
                return Math.abs(people.weight[hour] - people.weight[gave[p]]);
            }
            return hour;
        }

        private void smash(int p) {
            lumps[lumpCount] = gave[p];
            lumpCount++;
            letOut(p);
        }

        private void letOut(int p) {
            left &= ~(1 << p);
            giver[gave[p]] = NOBODY;
        }

        private void goRound() {
            int at = lowestLeft();
            // After as many steps as there may be people, he who is reached is in the ring.
            for (int i = 0; i < PEOPLE; i++) {
                at = aims[at];
            }
            int ring = 0;
            for (int i = 0; i < PEOPLE && !holds(ring, at); i++) {
                ring |= 1 << at;
                got[at] = gave[aims[at]];
                letOut(at);
                at = aims[at];
            }
            ringed |= ring;
        }

        private int lowestLeft() {
            for (int p = 0; p < PEOPLE - 1; p++) {
                if (holds(left, p)) {
                    return p;
                }
            }
            return PEOPLE - 1;
        }
    }

    /** The best that any giving could do: by person and by the hours still free, how many at most. */
    private static final class Sharing {
        private static final int SETS = 1 << PEOPLE;

        private final int[][] best = new int[PEOPLE + 1][SETS];
        private int hours;

        void weigh(House people, Affairs here) {
            hours = 0;
            for (int p = 0; p < PEOPLE; p++) {
                if (people.knows(here.has[p])) {
                    hours |= 1 << here.has[p];
                }
            }
            for (int p = PEOPLE - 1; p >= 0; p--) {
                int wish = wishOf(p, people, here);
                for (int free = 0; free < SETS; free++) {
                    if (isWithin(free, hours)) {
                        best[p][free] = bestFrom(p, wish & free, free);
                    }
                }
            }
        }

        int mostServed() {
            return best[0][hours];
        }

        int hourOf(int p, House people, Affairs here) {
            int free = hours;
            int chosen = NONE;
            for (int i = 0; i <= p; i++) {
                chosen = firstFor(i, wishOf(i, people, here) & free, free);
                if (chosen != NONE) {
                    free &= ~(1 << chosen);
                }
            }
            return chosen;
        }

        private static int wishOf(int p, House people, Affairs here) {
            return people.knows(p) && here.has[p] != NONE ? people.wantBits[p] : 0;
        }

        private int bestFrom(int p, int wish, int free) {
            int most = best[p + 1][free];
            for (int hour = 0; hour < PEOPLE; hour++) {
                if (holds(wish, hour)) {
                    most = Math.max(most, 1 + best[p + 1][free & ~(1 << hour)]);
                }
            }
            return most;
        }

        private int firstFor(int p, int wish, int free) {
            for (int hour = 0; hour < PEOPLE; hour++) {
                if (holds(wish, hour) && 1 + best[p + 1][free & ~(1 << hour)] == best[p][free]) {
                    return hour;
                }
            }
            return NONE;
        }
    }

    /** What can be joined of the bits. */
    private static final class Lumps {
        private static final int SETS = 1 << BITS;

        private final int[] sums = new int[SETS];
        private final int[] hours = new int[SETS];

        int fullest(Affairs here) {
            int best = 0;
            int most = 0;
            for (int set = 1; set < 1 << here.bitCount; set++) {
                int sum = here.minutes(set);
                if (sum <= MINUTES && sum > most) {
                    best = set;
                    most = sum;
                }
            }
            return best;
        }

        int mostHours(Affairs here) {
            int sets = 1 << here.bitCount;
            for (int set = 0; set < sets; set++) {
                sums[set] = here.minutes(set);
                hours[set] = hoursOf(set);
            }
            return hours[sets - 1];
        }

        /** Smaller sets are known: the lowest bit is left lying, or is in one of the hours. */
        private int hoursOf(int set) {
            if (set == 0) {
                return 0;
            }
            int lowest = set & -set;
            int most = hours[set & ~lowest];
            for (int some = set; some > 0; some = (some - 1) & set) {
                if ((some & lowest) != 0 && sums[some] == MINUTES) {
                    most = Math.max(most, 1 + hours[set & ~some]);
                }
            }
            return most;
        }
    }
}
