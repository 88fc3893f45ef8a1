/** A ringer who cannot hear his bells goes by what comes up from the fields: ../shared/DOC.md tells how. */
public final class RungByHeart {
    public static final int BAD = -1, NOT = -2, FULL = -3, STATE = -5, VOID = -2000000000;

    private static final int NOTHING_THERE = -11, OTHER_KIND = -12, NO_PLACE = -13, SIZE_BELOW_ZERO = -14;

    private static final int LAST = 300, HIGHEST_SIGN = 3, MOST_FARMS = 10, SHELVES = 6;
    private static final int LONGEST_ROUND = 60, MOST_SENT = 3, MOST_DAYS = 20, MOST_DAY = 99;
    private static final int WEATHERS = 12;

    // What mend() and of() name by number.
    private static final int FAR = 0, KIND = 1, AT = 2, DOES = 3, RESTS = 4, QUORUM = 5, BEGINS = 6, RAINS = 7;
    private static final int FARM_NUMBERS = 5, NOW = 10, RUNG_NOW = 11;
    private static final int[] MOST = {9, 5, 99, 3, 9, 10, 3, 12};

    private final Field field = new Field();
    private final Field thought = new Field();
    private final Tower tower = new Tower();
    private final Tower second = new Tower();
    private final int[] did = new int[HIGHEST_SIGN + 1];
    private final Reader reader = new Reader();
    private final Law law = new Law();
    private final Deed deed = new Deed();
    private final Deed kept = new Deed();
    private boolean imaged;
    private final Changes changes = new Changes();
    private final Strokes strokes = new Strokes();
    private final Shelf[] shelves = new Shelf[SHELVES];

    public RungByHeart() {
        for (int i = 0; i < shelves.length; i++) {
            shelves[i] = new Shelf();
        }
    }

    // ---- farms

    public int farm(int far, int kind) {
        if (!within(far, MOST[FAR]) || !within(kind, MOST[KIND])) {
            return BAD;
        }
        return field.add(far, kind, 0);
    }

    public int farms(int shelf, int i, int n) {
        Shelf from = shelfAt(shelf);
        if (from == null || n < 1 || n > MOST_FARMS) {
            return BAD;
        }
        if (from.holdsNothing()) {
            return 0;
        }
        if (!from.holdsBytes()) {
            return OTHER_KIND;
        }
        int came = 0;
        for (int k = 0; k < n && comesFrom(from, i + 3L * k); k++) {
            came++;
        }
        return came;
    }

    public int mend(int number, int what, int v) {
        int slot = field.slotOf(number, what);
        if (slot < 0 || !within(v, mostOf(what))) {
            return BAD;
        }
        int was = field.value(slot);
        if (was != v) {
            field.write(slot, v);
            changes.add(slot, was, v);
        }
        return was;
    }

    public int of(int number, int what) {
        if (what == NOW || what == RUNG_NOW) {
            if (number != 0) {
                return BAD;
            }
            return what == NOW ? deed.tower.minute : rungNow();
        }
        int slot = field.slotOf(number, what);
        return slot < 0 ? BAD : field.value(slot);
    }

    public int feed(int letter) {
        if (!within(letter, 255)) {
            return BAD;
        }
        return reader.add(letter) ? reader.length : FULL;
    }

    public int law() {
        int fault = reader.read();
        if (fault == Reader.NONE) {
            law.become(reader);
        }
        reader.length = 0;
        return fault == Reader.NONE ? 1 : -100 - fault;
    }

    // ---- days in thought

    public int rung(int minute) {
        if (!within(minute, LAST)) {
            return BAD;
        }
        ringDay(field, tower, minute);
        return tower.at(minute);
    }

    public int does(int farm, int minute) {
        if (!field.isFarm(farm) || !within(minute, LAST)) {
            return BAD;
        }
        ringDay(field, tower, minute);
        return field.doing(farm, minute, tower);
    }

    public int signs(int minute, int sign) {
        if (!within(minute, LAST) || !within(sign, HIGHEST_SIGN)) {
            return BAD;
        }
        ringDay(field, tower, minute);
        countSigns(field, tower, minute);
        return did[sign];
    }

    public int round(int what) {
        if (!within(what, 1)) {
            return BAD;
        }
        ringDay(field, tower, LAST);
        int first = NOT;
        int least = NOT;
        for (int length = 1; length <= LONGEST_ROUND; length++) {
            int from = tower.anewFrom(length);
            if (from != NOT && (first == NOT || from < first)) {
                first = from;
                least = length;
            }
        }
        return what == 0 ? first : least;
    }

    public int ends() {
        ringDay(field, tower, LAST);
        return tower.silentFrom();
    }

    public int often(int n, int sign, int what) {
        if (!within(n, LAST) || !within(sign, HIGHEST_SIGN) || !within(what, 1)) {
            return BAD;
        }
        ringDay(field, tower, n);
        return what == 0 ? tower.howOften(sign) : tower.longest(sign);
    }

    public int late(int shelf, int n, int what) {
        Shelf due = shelfAt(shelf);
        if (due == null || !within(n, LAST) || !within(what, 1)) {
            return BAD;
        }
        if (!due.holdsBytes()) {
            return due.refusal();
        }
        ringDay(field, tower, n);
        int otherwise = 0;
        int first = NOT;
        for (int m = 0; m <= n; m++) {
            if (tower.at(m) != due.cell(m)) {
                otherwise++;
                first = first == NOT ? m : first;
            }
        }
        return what == 0 ? otherwise : first;
    }

    public int spare(int what) {
        if (!within(what, 1)) {
            return BAD;
        }
        int best = NOT;
        int earliest = LAST + 2;
        for (int f = 0; f < field.farms; f++) {
            thinkDeaf(1 << f);
            ringDay(thought, second, LAST);
            int end = second.silentFrom();
            int counted = end == NOT ? LAST + 1 : end;
            if (counted < earliest) {
                best = f;
                earliest = counted;
            }
        }
        if (what == 0) {
            return best;
        }
        return earliest > LAST ? NOT : earliest;
    }

    public int send(int m, int what) {
        if (!within(m, LAST) || !within(what, 1)) {
            return BAD;
        }
        int sets = 1 << field.farms;
        for (int many = 0; many <= MOST_SENT; many++) {
            for (int set = 0; set < sets; set++) {
                if (Integer.bitCount(set) == many && endsBy(m, set)) {
                    return what == 0 ? many : set;
                }
            }
        }
        return NOT;
    }

    public int changesIt(int fs, int minute) {
        int farm = fs / 10;
        int sign = fs % 10;
        if (fs < 0 || !field.isFarm(farm) || !within(sign, HIGHEST_SIGN) || !within(minute, LAST)) {
            return BAD;
        }
        ringDay(field, tower, minute);
        countSigns(field, tower, minute);
        int unchanged = nextStroke(field, tower);
        addSign(field.doing(farm, minute, tower), -1);
        addSign(sign, 1);
        // What farms do counts in the next minute alone: if that is rung as it was, so are all later ones.
        return minute < LAST && nextStroke(field, tower) != unchanged ? minute + 1 : NOT;
    }

    public int byWhom(int minute) {
        if (!within(minute, LAST)) {
            return BAD;
        }
        ringDay(field, tower, minute);
        int whom = 0;
        for (int f = 0; f < field.farms; f++) {
            thinkDeaf(1 << f);
            ringDay(thought, second, minute);
            if (second.at(minute) != tower.at(minute)) {
                whom |= 1 << f;
            }
        }
        return whom;
    }

    // ---- another church, days seen

    public int church(int sb, int minute, int what) {
        if (!isChurch(sb) || !within(minute, LAST) || !within(what, 1)) {
            return BAD;
        }
        ringBoth(sb, minute);
        return what == 0 ? tower.at(minute) : second.at(minute);
    }

    public int alike(int sb, int n) {
        if (!isChurch(sb) || n < -1 || n > LAST) {
            return BAD;
        }
        ringBoth(sb, n < 0 ? LAST : n);
        if (n < 0) {
            return alikeFrom();
        }
        int same = 0;
        for (int m = 0; m <= n; m++) {
            same += tower.at(m) == second.at(m) ? 1 : 0;
        }
        return same;
    }

    public int judge(int shelf, int farm) {
        Shelf seen = shelfAt(shelf);
        if (seen == null || !field.isFarm(farm)) {
            return BAD;
        }
        if (!seen.holdsBytes()) {
            return seen.refusal();
        }
        return firstUnseen(seen, field, farm);
    }

    public int kinds(int shelf, int farm) {
        Shelf seen = shelfAt(shelf);
        if (seen == null || !field.isFarm(farm)) {
            return BAD;
        }
        if (!seen.holdsBytes()) {
            return seen.refusal();
        }
        int may = 0;
        for (int kind = 0; kind <= MOST[KIND]; kind++) {
            think(farm, KIND, kind);
            if (firstUnseen(seen, thought, farm) == NOT) {
                may |= 1 << kind;
            }
        }
        return may;
    }

    public int howFar(int shelf, int farm) {
        Shelf seen = shelfAt(shelf);
        if (seen == null || !field.isFarm(farm)) {
            return BAD;
        }
        if (!seen.holdsBytes()) {
            return seen.refusal();
        }
        for (int far = 0; far <= MOST[FAR]; far++) {
            think(farm, FAR, far);
            if (firstUnseen(seen, thought, farm) == NOT) {
                return far;
            }
        }
        return NOT;
    }

    public int which(int shelf) {
        Shelf seen = shelfAt(shelf);
        if (seen == null) {
            return BAD;
        }
        if (!seen.holdsBytes()) {
            return seen.refusal();
        }
        int may = 0;
        for (int f = 0; f < field.farms; f++) {
            if (firstUnseen(seen, field, f) == NOT) {
                may |= 1 << f;
            }
        }
        return may;
    }

    public int asTold(int shelf) {
        Shelf told = shelfAt(shelf);
        if (told == null) {
            return BAD;
        }
        return told.holdsBytes() ? firstUntold(told, field) : told.refusal();
    }

    public int deaf(int shelf) {
        Shelf told = shelfAt(shelf);
        if (told == null) {
            return BAD;
        }
        if (!told.holdsBytes()) {
            return told.refusal();
        }
        int sets = 1 << field.farms;
        for (int set = 0; set < sets; set++) {
            thinkDeaf(set);
            if (firstUntold(told, thought) == NOT) {
                return set;
            }
        }
        return NOT;
    }

    public int drawn(int seed, int nm, int what) {
        int days = nm / 100;
        int minutes = nm % 100;
        if (days < 1 || days > MOST_DAYS || minutes < 1 || minutes > MOST_DAY || !within(what, 1)) {
            return BAD;
        }
        int z = seed;
        int rung = 0;
        int ended = 0;
        for (int d = 0; d < days; d++) {
            z = ringDrawn(z, minutes);
            rung += minutes - tower.howOften(0);
            ended += tower.at(minutes - 1) == 0 ? 1 : 0;
        }
        return what == 0 ? rung : ended;
    }

    // ---- in deed

    public int pass() {
        if (deed.tower.minute >= LAST) {
            return STATE;
        }
        beginDeed();
        clearSigns();
        for (int f = 0; f < field.farms; f++) {
            addSign(doingNow(f), 1);
        }
        int sign = nextStroke(field, deed.tower);
        deed.ringOn(sign);
        return sign;
    }

    public int tell(int farm, int sign) {
        if (!field.isFarm(farm) || !within(sign, HIGHEST_SIGN)) {
            return BAD;
        }
        beginDeed();
        int would = doingNow(farm);
        deed.hearTold(farm, sign);
        return would;
    }

    public int day() {
        int was = deed.tower.minute;
        deed.beginAnew();
        return was;
    }

    public int led(int what) {
        switch (what) {
            case 0:
                return deed.minutes;
            case 1:
                return deed.strokes;
            case 2:
                return deed.tellings;
            case 3:
                return deed.days;
            case 4:
                return rungNow();
            default:
                return BAD;
        }
    }

    public int image() {
        kept.copyOf(deed);
        imaged = true;
        return deed.tower.minute;
    }

    public int back() {
        if (!imaged) {
            return STATE;
        }
        deed.copyOf(kept);
        return deed.tower.minute;
    }

    public int undo() {
        if (changes.done < 1) {
            return STATE;
        }
        changes.done--;
        field.write(changes.slotAt(changes.done), changes.wasAt(changes.done));
        return changes.done;
    }

    public int redo() {
        if (changes.done >= changes.size) {
            return STATE;
        }
        field.write(changes.slotAt(changes.done), changes.becameAt(changes.done));
        changes.done++;
        return changes.size - changes.done;
    }

    // ---- acts, shelves

    public int body(int kind) {
        return within(kind, Strokes.HIGHEST_KIND) ? strokes.add(kind) : BAD;
    }

    public int act(int body, int act, int x) {
        return strokes.perform(body, act, x);
    }

    public int trace(int i) {
        return strokes.ranAt(i);
    }

    public int keep(int shelf, int body) {
        Shelf on = shelfAt(shelf);
        if (on == null || body != -1 && !strokes.isThere(body)) {
            return BAD;
        }
        if (body == -1) {
            on.clear();
        } else {
            on.laySingle(body);
        }
        return 1;
    }

    public int row(int shelf, int sort, int n) {
        Shelf on = shelfAt(shelf);
        if (on == null || !within(sort, Shelf.BOOLEANS) || n > Shelf.LONGEST) {
            return BAD;
        }
        if (n < 0) {
            return SIZE_BELOW_ZERO;
        }
        on.layRow(sort, n);
        return 1;
    }

    public int put(int shelf, int i, long v) {
        Shelf on = shelfAt(shelf);
        if (on == null) {
            return BAD;
        }
        if (!on.holdsRow()) {
            return on.refusal();
        }
        if (!on.hasPlace(i)) {
            return NO_PLACE;
        }
        on.write(i, v);
        return 1;
    }

    public long element(int shelf, int i) {
        Shelf on = shelfAt(shelf);
        if (on == null || !on.holdsRow() || !on.hasPlace(i)) {
            return Long.MIN_VALUE;
        }
        return on.cell(i);
    }

    public int shift(int shelf, int i, int other, int j, int n) {
        Shelf from = shelfAt(shelf);
        Shelf to = shelfAt(other);
        if (from == null || to == null) {
            return BAD;
        }
        if (from.holdsNothing() || to.holdsNothing()) {
            return NOTHING_THERE;
        }
        if (!from.holdsRow() || from.sort != to.sort) {
            return OTHER_KIND;
        }
        if (!from.hasPlaces(i, n) || !to.hasPlaces(j, n)) {
            return NO_PLACE;
        }
        System.arraycopy(from.cells, i, to.cells, j, n);
        return n;
    }

    public int taken(int shelf, int k) {
        Shelf on = shelfAt(shelf);
        if (on == null || !within(k, Strokes.HIGHEST_KIND)) {
            return BAD;
        }
        if (on.holdsNothing()) {
            return NOTHING_THERE;
        }
        if (on.holdsRow()) {
            return OTHER_KIND;
        }
        int kind = strokes.kindOf(on.stroke);
        return Strokes.isUnder(kind, k) ? kind : OTHER_KIND;
    }

    public int count(int what) {
        switch (what) {
            case 0:
                return field.farms;
            case 1:
                return reader.length;
            case 2:
                return changes.done;
            case 3:
                return strokes.size;
            case 4:
                return strokes.ran;
            default:
                return BAD;
        }
    }

    // ---- what the calls share

    private static boolean within(int v, int most) {
        return v >= 0 && v <= most;
    }

    private static int mostOf(int what) {
        return what >= 0 && what < MOST.length ? MOST[what] : -1;
    }

    private Shelf shelfAt(int shelf) {
        return shelf >= 0 && shelf < shelves.length ? shelves[shelf] : null;
    }

    // The place is a long, since a three may begin beyond the last int.
    private boolean comesFrom(Shelf row, long place) {
        if (place < 0 || place + 3 > row.size) {
            return false;
        }
        int first = (int) place;
        int far = (int) row.cell(first);
        int kind = (int) row.cell(first + 1);
        int at = (int) row.cell(first + 2);
        if (!within(far, MOST[FAR]) || !within(kind, MOST[KIND]) || !within(at, MOST[AT])) {
            return false;
        }
        return field.add(far, kind, at) >= 0;
    }

    private void clearSigns() {
        for (int sign = 0; sign < did.length; sign++) {
            did[sign] = 0;
        }
    }

    private void addSign(int sign, int many) {
        if (sign >= 0 && sign < did.length) {
            did[sign] += many;
        }
    }

    private void countSigns(Field by, Tower heard, int minute) {
        clearSigns();
        for (int f = 0; f < by.farms; f++) {
            addSign(by.doing(f, minute, heard), 1);
        }
    }

    // By what farms did in the latest minute of that tower.
    private int nextStroke(Field by, Tower ringing) {
        if (law.isTold()) {
            return Math.max(0, Math.min(HIGHEST_SIGN, law.gives(did, ringing)));
        }
        int most = 1;
        for (int sign = 2; sign <= HIGHEST_SIGN; sign++) {
            most = did[sign] > did[most] ? sign : most;
        }
        return did[most] >= 1 && did[most] >= by.common(QUORUM) ? most : 0;
    }

    private void ringDay(Field by, Tower ringing, int last) {
        ringing.begin(by.common(BEGINS));
        for (int m = 1; m <= last; m++) {
            ringNext(by, ringing);
        }
    }

    private void ringNext(Field by, Tower ringing) {
        countSigns(by, ringing, ringing.minute);
        ringing.add(nextStroke(by, ringing));
    }

    private int ringDrawn(int seed, int minutes) {
        int z = draw(seed);
        tower.begin(field.common(BEGINS));
        for (int m = 1; m < minutes; m++) {
            if (rains(z)) {
                clearSigns();
            } else {
                countSigns(field, tower, m - 1);
            }
            tower.add(nextStroke(field, tower));
            z = draw(z);
        }
        return z;
    }

    private static int draw(int z) {
        return z * 1103515245 + 12345;
    }

    private boolean rains(int z) {
        return (z >>> 8) % WEATHERS < field.common(RAINS);
    }

    private void think(int farm, int what, int v) {
        thought.copyOf(field);
        thought.write(thought.slotOf(farm, what), v);
    }

    private void thinkDeaf(int set) {
        thought.copyOf(field);
        for (int f = 0; f < field.farms; f++) {
            if ((set >> f & 1) == 1) {
                thought.write(thought.slotOf(f, KIND), Field.DEAF);
            }
        }
    }

    // A sham that does 0 from minute 0 on does what a deaf farm does.
    private boolean endsBy(int m, int set) {
        thinkDeaf(set);
        second.begin(thought.common(BEGINS));
        boolean silent = m > 0 || second.at(0) == 0;
        for (int t = 1; t <= LAST && silent; t++) {
            ringNext(thought, second);
            silent = t < m || second.at(t) == 0;
        }
        return silent;
    }

    private boolean isChurch(int sb) {
        return sb >= 0 && sb / 10 < 1 << field.farms && sb % 10 <= HIGHEST_SIGN;
    }

    private void ringBoth(int sb, int last) {
        int set = sb / 10;
        tower.begin(field.common(BEGINS));
        second.begin(sb % 10);
        for (int m = 1; m <= last; m++) {
            clearSigns();
            for (int f = 0; f < field.farms; f++) {
                addSign(field.doing(f, m - 1, (set >> f & 1) == 1 ? second : tower), 1);
            }
            tower.add(nextStroke(field, tower));
            second.add(nextStroke(field, second));
        }
    }

    private int alikeFrom() {
        int from = LAST + 1;
        while (from > 0 && tower.at(from - 1) == second.at(from - 1)) {
            from--;
        }
        return from > LAST ? NOT : from;
    }

    private int firstUnseen(Shelf seen, Field by, int farm) {
        ringDay(by, second, seen.size - 1);
        for (int m = 0; m < seen.size; m++) {
            long sign = seen.cell(m);
            if (sign >= 0 && sign <= HIGHEST_SIGN && sign != by.doing(farm, m, second)) {
                return m;
            }
        }
        return NOT;
    }

    private int firstUntold(Shelf told, Field by) {
        second.begin(by.common(BEGINS));
        for (int m = 0; m < told.size; m++) {
            if (m > 0) {
                ringNext(by, second);
            }
            if (second.at(m) != told.cell(m)) {
                return m;
            }
        }
        return NOT;
    }

    private int rungNow() {
        return deed.tower.minute == 0 ? field.common(BEGINS) : deed.tower.at(deed.tower.minute);
    }

    // What it was told for the minute NOW goes ahead of what its KIND says.
    private int doingNow(int farm) {
        int told = deed.toldTo(farm);
        return told < 0 ? field.doing(farm, deed.tower.minute, deed.tower) : told;
    }

    // BEGINS may still be mended until the first minute passes.
    private void beginDeed() {
        if (deed.tower.minute == 0) {
            deed.tower.begin(field.common(BEGINS));
        }
    }

    /** The farms' numbers, five each, and behind them the three that hold for all. */
    private static final class Field {
        static final int TRUE = 0, DEAF = 1, STRANGER = 2, DOG = 3, MOURNER = 4, SHAM = 5;
        private static final int COMMON = MOST_FARMS * FARM_NUMBERS;

        private final int[] numbers = new int[COMMON + RAINS - QUORUM + 1];
        private int farms;

        Field() {
            write(slotOf(0, QUORUM), 1);
            write(slotOf(0, BEGINS), 1);
        }

        void copyOf(Field from) {
            System.arraycopy(from.numbers, 0, numbers, 0, numbers.length);
            farms = from.farms;
        }

        boolean isFarm(int number) {
            return number >= 0 && number < farms;
        }

        int slotOf(int number, int what) {
            if (what >= QUORUM && what <= RAINS) {
                return number == 0 ? COMMON + what - QUORUM : -1;
            }
            return what >= FAR && what <= RESTS && isFarm(number) ? number * FARM_NUMBERS + what : -1;
        }

        int value(int slot) {
            return slot >= 0 && slot < numbers.length ? numbers[slot] : 0;
        }

        void write(int slot, int v) {
            if (slot >= 0 && slot < numbers.length) {
                numbers[slot] = v;
            }
        }

        int common(int what) {
            return value(COMMON + what - QUORUM);
        }

        int add(int far, int kind, int at) {
            if (farms >= MOST_FARMS) {
                return FULL;
            }
            int number = farms;
            farms++;
            write(slotOf(number, FAR), far);
            write(slotOf(number, KIND), kind);
            write(slotOf(number, AT), at);
            write(slotOf(number, DOES), 1);
            return number;
        }

        int doing(int farm, int minute, Tower heard) {
            int first = farm * FARM_NUMBERS;
            int hears = heard.at(minute - value(first + FAR));
            switch (value(first + KIND)) {
                case TRUE:
                    return hears;
                case STRANGER:
                    return hears == 1 ? 2 : hears == 2 ? 1 : hears;
                case DOG:
                    return barks(minute, value(first + AT) + 1) ? value(first + DOES) : 0;
                case MOURNER:
                    return heard.at(minute - value(first + FAR) - value(first + RESTS));
                case SHAM:
                    return minute >= value(first + AT) ? value(first + DOES) : hears;
                default:
                    return 0;
            }
        }

        private static boolean barks(int minute, int every) {
            return every > 0 && minute % every == 0;
        }
    }

    /** What one church rang, up to its latest minute. */
    private static final class Tower {
        private final int[] signs = new int[LAST + 1];
        private int minute;
        private int lasting;

        void begin(int sign) {
            signs[0] = sign;
            minute = 0;
            lasting = 1;
        }

        void add(int sign) {
            if (minute + 1 < signs.length) {
                lasting = sign == at(minute) ? lasting + 1 : 1;
                minute++;
                signs[minute] = sign;
            }
        }

        int at(int m) {
            return m >= 0 && m <= minute && m < signs.length ? signs[m] : 0;
        }

        void copyOf(Tower from) {
            System.arraycopy(from.signs, 0, signs, 0, signs.length);
            minute = from.minute;
            lasting = from.lasting;
        }

        int silentFrom() {
            int from = minute + 1;
            while (from > 0 && at(from - 1) == 0) {
                from--;
            }
            return from > minute ? NOT : from;
        }

        int anewFrom(int length) {
            int from = minute - length + 1;
            while (from > 0 && at(from - 1) == at(from - 1 + length)) {
                from--;
            }
            return from > minute - 2 * length ? NOT : from;
        }

        int howOften(int sign) {
            int often = 0;
            for (int m = 0; m <= minute; m++) {
                often += at(m) == sign ? 1 : 0;
            }
            return often;
        }

        int longest(int sign) {
            int best = 0;
            int run = 0;
            for (int m = 0; m <= minute; m++) {
                run = at(m) == sign ? run + 1 : 0;
                best = Math.max(best, run);
            }
            return best;
        }
    }

    /** The tape, and its reading as a text: the law's code, operands ahead of their operator. */
    private static final class Reader {
        static final int NONE = -1, LONGEST = 120;
        private static final int MOST_OPEN = 6, MOST_DIGITS = 4;
        private static final int OR = 0, AND = 1, COMPARE = 2, SUM = 3, PRODUCT = 4;

        private final int[] tape = new int[LONGEST];
        private int length;
        private int place;
        private boolean broken;
        private final int[] code = new int[Law.LONGEST];
        private int size;

        boolean add(int letter) {
            if (length >= tape.length) {
                return false;
            }
            tape[length] = letter;
            length++;
            return true;
        }

        int read() {
            place = 0;
            size = 0;
            broken = false;
            readLine();
            for (int i = 0; i < LONGEST && !broken && sign() == ';'; i++) {
                place++;
                readLine();
            }
            return broken || place < length ? place : NONE;
        }

        private int sign() {
            return place >= 0 && place < length && place < tape.length ? tape[place] : NONE;
        }

        private void emit(int piece) {
            if (size < code.length) {
                code[size] = piece;
                size++;
            }
        }

        private void readLine() {
            readLevel(OR, 0);
            if (!broken && sign() == '?') {
                place++;
                emit(-'?');
                readLevel(OR, 0);
            }
            emit(-';');
        }

        // The place stays at the first wrong byte: nothing is read on once the text is broken.
        private void readLevel(int level, int open) {
            if (level > PRODUCT) {
                readOperand(open);
                return;
            }
            readLevel(level + 1, open);
            int most = level == COMPARE ? 1 : LONGEST;
            for (int i = 0; i < most && !broken && belongs(sign(), level); i++) {
                int operator = sign();
                place++;
                readLevel(level + 1, open);
                emit(-operator);
            }
        }

        private static boolean belongs(int sign, int level) {
            switch (level) {
                case OR:
                    return sign == '|';
                case AND:
                    return sign == '&';
                case COMPARE:
                    return sign == '<' || sign == '=' || sign == '>';
                case SUM:
                    return sign == '+' || sign == '-';
                case PRODUCT:
                    return sign == '*' || sign == '/' || sign == '%';
                default:
                    return false;
            }
        }

        private void readOperand(int open) {
            int sign = sign();
            if (isDigit(sign)) {
                readNumber();
            } else if (isName(sign)) {
                place++;
                emit(-sign);
            } else if (open < MOST_OPEN && (sign == '!' || sign == '-')) {
                place++;
                readOperand(open + 1);
                emit(sign == '!' ? -'!' : -Law.NEGATE);
            } else if (open < MOST_OPEN && sign == '(') {
                place++;
                readLevel(OR, open + 1);
                readClosing();
            } else {
                broken = true;
            }
        }

        private void readClosing() {
            if (!broken && sign() == ')') {
                place++;
            } else {
                broken = true;
            }
        }

        private void readNumber() {
            int number = 0;
            for (int i = 0; i < MOST_DIGITS && isDigit(sign()); i++) {
                number = number * 10 + sign() - '0';
                place++;
            }
            emit(number);
        }

        private static boolean isDigit(int sign) {
            return sign >= '0' && sign <= '9';
        }

        private static boolean isName(int sign) {
            return sign == 'a' || sign == 'b' || sign == 'c' || sign == 'r' || sign == 'g' || sign == 'm';
        }
    }

    /** A text worked out: numbers stand in the code as they are, all else as its sign below 0. */
    private static final class Law {
        // Each byte gives one piece at most, and the last line has no ; of its own.
        static final int LONGEST = Reader.LONGEST + 1;
        // A sign for the minus ahead of an operand, which no text holds.
        static final int NEGATE = '~';

        private final int[] code = new int[LONGEST];
        private int size;
        private final int[] stack = new int[LONGEST];
        private int top;

        boolean isTold() {
            return size > 0;
        }

        void become(Reader from) {
            System.arraycopy(from.code, 0, code, 0, code.length);
            size = from.size;
        }

        int gives(int[] did, Tower ringing) {
            boolean skipping = false;
            top = 0;
            for (int i = 0; i < size && i < code.length; i++) {
                int piece = code[i];
                if (skipping) {
                    skipping = piece != -';';
                } else if (piece >= 0) {
                    push(piece);
                } else if (piece == -';') {
                    return pop();
                } else if (piece == -'?') {
                    skipping = pop() == 0;
                } else {
                    workOut(-piece, did, ringing);
                }
            }
            return 0;
        }

        private void workOut(int sign, int[] did, Tower ringing) {
            switch (sign) {
                case 'a':
                case 'b':
                case 'c':
                    push(howMany(did, sign - 'a' + 1));
                    break;
                case 'r':
                    push(ringing.at(ringing.minute));
                    break;
                case 'g':
                    push(ringing.lasting);
                    break;
                case 'm':
                    push(ringing.minute + 1);
                    break;
                case '!':
                    push(pop() == 0 ? 1 : 0);
                    break;
                case NEGATE:
                    push(-pop());
                    break;
                default:
                    int right = pop();
                    push(joined(sign, pop(), right));
            }
        }

        private static int howMany(int[] did, int sign) {
            return sign >= 0 && sign < did.length ? did[sign] : 0;
        }

        private static int joined(int sign, int left, int right) {
            switch (sign) {
                case '|':
                    return left != 0 || right != 0 ? 1 : 0;
                case '&':
                    return left != 0 && right != 0 ? 1 : 0;
                case '<':
                    return left < right ? 1 : 0;
                case '=':
                    return left == right ? 1 : 0;
                case '>':
                    return left > right ? 1 : 0;
                case '+':
                    return left + right;
                case '-':
                    return left - right;
                case '*':
                    return left * right;
                case '/':
                    return right == 0 ? 0 : left / right;
                case '%':
                    return right == 0 ? 0 : left % right;
                default:
                    return 0;
            }
        }

        private void push(int v) {
            if (top >= 0 && top < stack.length) {
                stack[top] = v;
                top++;
            }
        }

        private int pop() {
            if (top < 1 || top > stack.length) {
                return 0;
            }
            top--;
            return stack[top];
        }
    }

    /** The ringing in deed: its latest minute is the minute NOW. */
    private static final class Deed {
        private static final int UNTOLD = -1;

        private final Tower tower = new Tower();
        private final int[] told = new int[MOST_FARMS];
        private int minutes;
        private int strokes;
        private int tellings;
        private int days;

        Deed() {
            forgetTold();
        }

        private void forgetTold() {
            for (int f = 0; f < told.length; f++) {
                told[f] = UNTOLD;
            }
        }

        int toldTo(int farm) {
            return farm >= 0 && farm < told.length ? told[farm] : UNTOLD;
        }

        void hearTold(int farm, int sign) {
            if (farm >= 0 && farm < told.length) {
                told[farm] = sign;
                tellings++;
            }
        }

        void ringOn(int sign) {
            tower.add(sign);
            forgetTold();
            minutes++;
            strokes += sign != 0 ? 1 : 0;
        }

        void beginAnew() {
            tower.begin(0);
            forgetTold();
            days++;
        }

        void copyOf(Deed from) {
            tower.copyOf(from.tower);
            System.arraycopy(from.told, 0, told, 0, told.length);
            minutes = from.minutes;
            strokes = from.strokes;
            tellings = from.tellings;
            days = from.days;
        }
    }

    /** The changes kept: those done, and behind them those undone. */
    private static final class Changes {
        private static final int MOST_KEPT = 40;

        private final int[] slots = new int[MOST_KEPT];
        private final int[] was = new int[MOST_KEPT];
        private final int[] became = new int[MOST_KEPT];
        private int done;
        private int size;

        void add(int slot, int before, int after) {
            if (done >= MOST_KEPT) {
                dropOldest();
            }
            if (done >= 0 && done < MOST_KEPT) {
                slots[done] = slot;
                was[done] = before;
                became[done] = after;
                done++;
            }
            size = done;
        }

        private void dropOldest() {
            System.arraycopy(slots, 1, slots, 0, MOST_KEPT - 1);
            System.arraycopy(was, 1, was, 0, MOST_KEPT - 1);
            System.arraycopy(became, 1, became, 0, MOST_KEPT - 1);
            done = MOST_KEPT - 1;
        }

        private static boolean isKept(int i) {
            return i >= 0 && i < MOST_KEPT;
        }

        int slotAt(int i) {
            return isKept(i) ? slots[i] : -1;
        }

        int wasAt(int i) {
            return isKept(i) ? was[i] : 0;
        }

        int becameAt(int i) {
            return isKept(i) ? became[i] : 0;
        }
    }

    /** The strokes kept, and the bodies that ran in the latest act. */
    private static final class Strokes {
        static final int HIGHEST_KIND = 7;
        private static final int MOST_BODIES = 50, LONGEST_TRACE = 24, DEEPEST = 40;
        private static final int RING = 0, HEAR = 1, DO = 2, TELL = 3, ACTS = 4;
        // By KIND, the KIND above it.
        private static final int[] ABOVE = {-1, 0, 0, 2, 1, 3, 0, 4};
        // By KIND, its body for each ACT; 0: it has none of its own.
        private static final int[] OWN = {
            1, 10, 11, 2,
            20, 0, 0, 0,
            0, 30, 0, 0,
            0, 41, 40, 0,
            0, 0, 50, 0,
            0, 0, 0, 60,
            70, 0, 0, 0,
            0, 80, 0, 81};

        private final int[] kindBy = new int[MOST_BODIES];
        private int size;
        private final int[] path = new int[LONGEST_TRACE];
        private int ran;
        private int acting;

        int add(int kind) {
            if (size >= kindBy.length) {
                return FULL;
            }
            kindBy[size] = kind;
            size++;
            return size - 1;
        }

        boolean isThere(int stroke) {
            return stroke >= 0 && stroke < size && stroke < kindBy.length;
        }

        int kindOf(int stroke) {
            return isThere(stroke) ? kindBy[stroke] : -1;
        }

        int ranAt(int i) {
            return i >= 0 && i < ran && i < path.length ? path[i] : BAD;
        }

        private static int above(int kind) {
            return kind >= 0 && kind < ABOVE.length ? ABOVE[kind] : -1;
        }

        static boolean isUnder(int kind, int top) {
            int k = kind;
            for (int i = 0; i <= HIGHEST_KIND && k >= 0 && k != top; i++) {
                k = above(k);
            }
            return k == top;
        }

        int perform(int stroke, int what, int x) {
            ran = 0;
            if (!isThere(stroke) || what < 0 || what >= ACTS) {
                return 0;
            }
            acting = stroke;
            return own(what, x, 0);
        }

        private int own(int what, int x, int depth) {
            return run(what, kindOf(acting), x, depth);
        }

        private static int ownBody(int kind, int what) {
            int i = kind * ACTS + what;
            return i >= 0 && i < OWN.length ? OWN[i] : 0;
        }

        private static int holder(int what, int from) {
            int kind = from;
            for (int i = 0; i <= HIGHEST_KIND && kind >= 0 && ownBody(kind, what) == 0; i++) {
                kind = above(kind);
            }
            return kind;
        }

        private void begin(int number) {
            if (ran < path.length) {
                path[ran] = number;
            }
            ran++;
        }

        // The left side runs ahead of the right one, as the trace tells it.
        private int run(int what, int from, int x, int depth) {
            int kind = holder(what, from);
            if (kind < 0 || depth > DEEPEST) {
                return 0;
            }
            int number = ownBody(kind, what);
            int up = above(kind);
            int deeper = depth + 1;
            begin(number);
            switch (number) {
                case 1:
                    return x + acting;
                case 2:
                    return own(HEAR, x, deeper) - own(DO, 1, deeper);
                case 10:
                    return own(RING, x, deeper) * 2;
                case 11:
                    return x ^ acting;
                case 20:
                    return run(RING, up, x, deeper) + 3;
                case 30:
                    return -run(HEAR, up, x, deeper);
                case 40:
                    return run(DO, up, x, deeper) * 3;
                case 41:
                    return run(HEAR, up, x + 1, deeper);
                case 50:
                    return run(DO, up, x, deeper) - own(RING, 2, deeper);
                case 60:
                    return run(TELL, up, x, deeper) ^ 5;
                case 70:
                    return run(RING, up, x, deeper) * 2;
                case 80:
                    return run(HEAR, up, x, deeper) + own(DO, 2, deeper);
                case 81:
                    return run(TELL, up, x, deeper) - 1;
                default:
                    return 0;
            }
        }
    }

    /** Holds nothing, a stroke, or a row, whose elements stand as longs. */
    private static final class Shelf {
        static final int LONGEST = 60, BYTES = 0, SHORTS = 1, INTS = 2, LONGS = 3, BOOLEANS = 4;
        private static final int NOTHING = -1, STROKE = -2;

        private int sort = NOTHING;
        private int size;
        private int stroke;
        private final long[] cells = new long[LONGEST];

        boolean holdsNothing() {
            return sort == NOTHING;
        }

        boolean holdsRow() {
            return sort >= BYTES;
        }

        boolean holdsBytes() {
            return sort == BYTES;
        }

        int refusal() {
            return holdsNothing() ? NOTHING_THERE : OTHER_KIND;
        }

        void clear() {
            sort = NOTHING;
            size = 0;
        }

        void laySingle(int body) {
            sort = STROKE;
            size = 0;
            stroke = body;
        }

        void layRow(int ofSort, int n) {
            sort = ofSort;
            size = Math.max(0, Math.min(LONGEST, n));
            for (int i = 0; i < cells.length; i++) {
                cells[i] = 0;
            }
        }

        boolean hasPlace(int i) {
            return i >= 0 && i < size;
        }

        // No sum: it might wrap.
        boolean hasPlaces(int i, int n) {
            return i >= 0 && n >= 0 && i <= size && n <= size - i;
        }

        long cell(int i) {
            return hasPlace(i) && i < cells.length ? cells[i] : 0;
        }

        void write(int i, long v) {
            if (hasPlace(i) && i < cells.length) {
                cells[i] = lowest(v);
            }
        }

        private long lowest(long v) {
            switch (sort) {
                case BYTES:
                    return (byte) v;
                case SHORTS:
                    return (short) v;
                case INTS:
                    return (int) v;
                case BOOLEANS:
                    return v != 0 ? 1 : 0;
                default:
                    return v;
            }
        }
    }
}
