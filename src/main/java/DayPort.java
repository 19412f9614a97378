import java.util.NoSuchElementException;

/** A port where cranes lift days; ../shared/DOC.md says what each call promises. */
public final class DayPort {
    public static final int NONE = -1;

    private static final int NOTHING = -2;
    private static final int NO_SUM = -10000;

    private static final int SHIPS = 3;
    private static final int STACKS = 3;
    private static final int LOAD = 5;
    private static final int CRATES = SHIPS * LOAD;
    private static final int TOWNS = 5;
    private static final int ROADS = 8;
    private static final int HEAVIEST_CRATE = 30;
    private static final int LAST_NUMBER = 99;
    private static final int TAPE_BYTES = 1000;
    private static final int FEED_BYTES = 20;
    private static final int DAWNS = 99;
    private static final int KEPT = 16;
    private static final int IMAGES = 3;
    private static final int LONGEST_HOLD = 9;
    private static final int LAST_SEED = 65536;

    private static final int PLAIN = 0;
    private static final int WET = 1;
    private static final int FRAIL = 2;
    private static final int LASHED = 3;

    // Where a crate is: 0 .. 2 are the stacks.
    private static final int QUAY = 3;
    private static final int HAD = 4;
    private static final int GONE = 5;

    private static final int UNOPENED = 0;
    private static final int BY_DAY = 1;
    private static final int BY_NIGHT = 2;

    private static final int FORM = 1;
    private static final int UNTOLD = 2;
    private static final int AGAIN = 3;
    private static final int BOUNDS = 4;
    private static final int MANY = 5;
    private static final int LACKS = 6;

    private static final int NONE_SUCH = 1;
    private static final int A_NUMBER = 2;
    private static final int NO_ROOM = 3;
    private static final int A_FAULT = 4;
    private static final int NOT_SO = 5;
    private static final int THERE_IS_NONE = 6;

    private final byte[] tape = new byte[TAPE_BYTES];
    private int tapeLength = 0;
    private Port port = new Port();
    private Port draft = new Port();
    private final Reader reader = new Reader(tape, draft);
    private boolean told = false;
    private int fault = 0;
    private int trouble = 0;
    private final Yard now = new Yard();
    private final Yard[] kept = new Yard[KEPT];
    private int keptCount = 0;
    private final Yard[] images = new Yard[IMAGES];
    private int imageCount = 0;
    private final Outing outing = new Outing();
    private final Night nights = new Night();
    private final Inland roads = new Inland();
    private final Strike dispute = new Strike();

    public DayPort() {
        for (int i = 0; i < KEPT; i++) {
            kept[i] = new Yard();
        }
        for (int i = 0; i < IMAGES; i++) {
            images[i] = new Yard();
        }
    }

    // ---- the port

    public int feed(int a, int b, int c, int d, int e) {
        if (tapeLength + FEED_BYTES > TAPE_BYTES) {
            return NONE;
        }
        write(a);
        write(b);
        write(c);
        write(d);
        write(e);
        return tapeLength;
    }

    public int port(int n) {
        if (n < 0 || n > tapeLength) {
            return refused(A_NUMBER);
        }
        tapeLength = 0;
        boolean sound = reader.read(draft, n);
        fault = reader.fault;
        if (!sound) {
            return refused(A_FAULT);
        }
        Port before = port;
        port = draft;
        draft = before;
        told = true;
        now.begin(port);
        keptCount = 0;
        imageCount = 0;
        roads.measure(port);
        dispute.settle(port);
        return answered(port.crateCount);
    }

    public int fault() {
        return fault;
    }

    public int where() {
        return trouble == A_FAULT ? reader.faultPlace : NONE;
    }

    // ---- now

    public int crate(int c, int what) {
        if (noCrate(c) || what < 0 || what > 6) {
            return refused(NONE_SUCH);
        }
        Crate crate = port.crates[c];
        switch (what) {
            case 0:
                return answered(crate.kind);
            case 1:
                return answered(crate.ship);
            case 2:
                return answered(crate.number);
            case 3:
                return answered(crate.weighs);
            case 4:
                return answered(now.place[c]);
            case 5:
                return answered(now.lifted[c]);
            default:
                return answered(now.isBroken(port, c) ? 1 : 0);
        }
    }

    public int high(int ship, int stack) {
        if (noStack(ship, stack)) {
            return refused(NONE_SUCH);
        }
        return answered(now.height(ship, stack));
    }

    public int lies(int ship, int stack, int i) {
        if (noStack(ship, stack) || i < 0 || i >= now.height(ship, stack)) {
            return refused(NONE_SUCH);
        }
        return answered(now.crateAt(ship, stack, i));
    }

    public int quay(int i) {
        if (!told || i < 0 || i >= now.onQuay) {
            return refused(NONE_SUCH);
        }
        return answered(now.quayRow[i]);
    }

    public int next() {
        if (!told) {
            return refused(NONE_SUCH);
        }
        int i = now.firstDry(port);
        return answered(i < 0 ? NOTHING : now.quayRow[i]);
    }

    public int had(int day) {
        if (!told || day < 0 || day >= now.day) {
            return refused(NONE_SUCH);
        }
        return answered(now.numberHadOn(port, day));
    }

    public int hadOn(int number) {
        if (!told) {
            return refused(NONE_SUCH);
        }
        if (noNumber(number)) {
            return refused(A_NUMBER);
        }
        return answered(now.dayOfNumber(port, number));
    }

    public int missing() {
        if (!told) {
            return refused(NONE_SUCH);
        }
        int greatest = 0;
        for (int c = 0; c < port.crateCount; c++) {
            if (now.place[c] == HAD) {
                greatest = Math.max(greatest, port.crates[c].number);
            }
        }
        int least = greatest;
        for (int c = 0; c < port.crateCount; c++) {
            if (now.place[c] != HAD) {
                least = Math.min(least, port.crates[c].number);
            }
        }
        return answered(least < greatest ? least : NOTHING);
    }

    public int evenings() {
        if (!told) {
            return refused(NONE_SUCH);
        }
        int longest = 0;
        int row = 0;
        for (int day = 0; day < now.day; day++) {
            row = now.numberHadOn(port, day) == 0 ? row + 1 : 0;
            longest = Math.max(longest, row);
        }
        return answered(longest);
    }

    // ---- ships

    public int judge() {
        if (!told) {
            return refused(NONE_SUCH);
        }
        for (int s = 0; s < port.shipCount; s++) {
            if (port.ships[s].says != port.ships[s].crates) {
                return answered(s);
            }
        }
        return answered(NOTHING);
    }

    public long come(int ship, int day, boolean lower) {
        if (noShip(ship)) {
            return refused(NONE_SUCH);
        }
        if (noComingDay(day)) {
            return refused(A_NUMBER);
        }
        trouble = 0;
        return inLowestTerms(port.ships[ship].hundredthsBy(day), 100, lower);
    }

    public long allCome(int day, boolean lower) {
        if (!told) {
            return refused(NONE_SUCH);
        }
        if (noComingDay(day)) {
            return refused(A_NUMBER);
        }
        trouble = 0;
        long above = 1;
        long below = 1;
        for (int s = 0; s < port.shipCount; s++) {
            above *= port.ships[s].hundredthsBy(day);
            below *= 100;
        }
        return inLowestTerms(above, below, lower);
    }

    public int sure(int day) {
        if (!told) {
            return refused(NONE_SUCH);
        }
        if (noComingDay(day)) {
            return refused(A_NUMBER);
        }
        int crates = 0;
        for (int s = 0; s < port.shipCount; s++) {
            if (port.ships[s].hundredthsBy(day) == 100) {
                crates += port.ships[s].crates;
            }
        }
        return answered(crates);
    }

    public long mean(int ship, boolean lower) {
        if (noShip(ship)) {
            return refused(NONE_SUCH);
        }
        trouble = 0;
        Ship s = port.ships[ship];
        return inLowestTerms(100L * s.day + s.chance * s.late, 100, lower);
    }

    public int weight(int ship) {
        if (noShip(ship)) {
            return refused(NONE_SUCH);
        }
        int together = 0;
        for (int stack = 0; stack < STACKS; stack++) {
            together += now.stackWeighs(port, ship, stack);
        }
        return answered(together);
    }

    public int heaviest(int ship) {
        if (noShip(ship)) {
            return refused(NONE_SUCH);
        }
        int most = 0;
        for (int stack = 1; stack < STACKS; stack++) {
            if (now.stackWeighs(port, ship, stack) > now.stackWeighs(port, ship, most)) {
                most = stack;
            }
        }
        return answered(most);
    }

    // ---- lifts

    public int fewest(int ship) {
        if (noShip(ship)) {
            return refused(NONE_SUCH);
        }
        outing.solve(port, now, ship);
        return answered(outing.possible ? outing.fewestLifts : NOTHING);
    }

    public int liftAt(int ship, int i) {
        if (noShip(ship)) {
            return refused(NONE_SUCH);
        }
        outing.solve(port, now, ship);
        if (!outing.possible) {
            return refused(THERE_IS_NONE);
        }
        if (i < 0 || i >= outing.pathLength) {
            return refused(NONE_SUCH);
        }
        return answered(outing.path[i]);
    }

    public int wrongly(int ship) {
        if (noShip(ship)) {
            return refused(NONE_SUCH);
        }
        int wrong = 0;
        for (int stack = 0; stack < STACKS; stack++) {
            for (int i = 0; i < now.height(ship, stack); i++) {
                if (now.liesAboveLesser(port, ship, stack, i)) {
                    wrong++;
                }
            }
        }
        return answered(wrong);
    }

    // ---- by night

    public int fits() {
        if (!told) {
            return refused(NONE_SUCH);
        }
        nights.count(port, now);
        return answered(nights.sets);
    }

    public int could() {
        if (!told) {
            return refused(NONE_SUCH);
        }
        nights.count(port, now);
        int bits = 0;
        for (int c = 0; c < port.crateCount; c++) {
            if (nights.setsWith(port, now, c) > 0) {
                bits |= 1 << c;
            }
        }
        return answered(bits);
    }

    public int surely() {
        if (!told) {
            return refused(NONE_SUCH);
        }
        nights.count(port, now);
        int bits = 0;
        for (int c = 0; c < port.crateCount; c++) {
            if (nights.sets > 0 && nights.setsWith(port, now, c) == nights.sets) {
                bits |= 1 << c;
            }
        }
        return answered(bits);
    }

    public int ask() {
        if (!told) {
            return refused(NONE_SUCH);
        }
        nights.choose(port, now);
        return answered(nights.best);
    }

    public int askLeaves() {
        if (!told) {
            return refused(NONE_SUCH);
        }
        nights.choose(port, now);
        return answered(nights.bestLeaves);
    }

    // ---- towns

    public int share(int town, int minutes) {
        if (noTown(town)) {
            return refused(NONE_SUCH);
        }
        if (minutes < 0 || minutes > 9999) {
            return refused(A_NUMBER);
        }
        return answered(roads.minutesOf(port, town, minutes));
    }

    public int late(int town) {
        if (noTown(town)) {
            return refused(NONE_SUCH);
        }
        return answered(roads.lateOrNothing(town));
    }

    public int farthest() {
        if (!told) {
            return refused(NONE_SUCH);
        }
        int latest = 0;
        for (int town = 1; town < port.townCount; town++) {
            if (roads.lateOrNothing(town) > roads.lateOrNothing(latest)) {
                latest = town;
            }
        }
        return answered(latest);
    }

    public int wayAt(int town, int i) {
        if (noTown(town) || i < 0) {
            return refused(NONE_SUCH);
        }
        int stop = roads.townOnWay(port, town, i);
        return stop < 0 ? refused(NONE_SUCH) : answered(stop);
    }

    public int inland(int town, int number) {
        if (noTown(town)) {
            return refused(NONE_SUCH);
        }
        if (noNumber(number)) {
            return refused(A_NUMBER);
        }
        return answered(hadInland(town, number));
    }

    public int people(int number, int day) {
        if (!told) {
            refused(NONE_SUCH);
            return NO_SUM;
        }
        if (noNumber(number) || day < 0 || day > 999) {
            refused(A_NUMBER);
            return NO_SUM;
        }
        int sum = 0;
        for (int town = 0; town < port.townCount; town++) {
            int hadThere = hadInland(town, number);
            boolean inTime = hadThere >= 0 && hadThere <= day;
            sum += inTime ? port.people[town] : -port.people[town];
        }
        return answered(sum);
    }

    // ---- a strike

    public int strike(int gang, int council, boolean ofCouncil) {
        if (!told) {
            refused(NONE_SUCH);
            return NO_SUM;
        }
        if (noHold(gang) || noHold(council)) {
            refused(A_NUMBER);
            return NO_SUM;
        }
        return answered(ofCouncil ? Strike.ofCouncil(port, gang, council) : Strike.ofGang(port, gang, council));
    }

    public int rests() {
        if (!told) {
            return refused(NONE_SUCH);
        }
        return answered(dispute.restCount);
    }

    public int rest(int i) {
        if (!told || i < 0 || i >= dispute.restCount) {
            return refused(NONE_SUCH);
        }
        return answered(dispute.restRow[i]);
    }

    // ---- winters

    public int winter(int seed) {
        if (!told) {
            return refused(NONE_SUCH);
        }
        if (noSeed(seed)) {
            return refused(A_NUMBER);
        }
        int last = 0;
        int drawn = seed;
        for (int s = 0; s < port.shipCount; s++) {
            drawn = draw(drawn);
            last = Math.max(last, port.ships[s].comesOn(drawn));
        }
        return answered(last);
    }

    public int lates(int ship, int seed, int n) {
        if (noShip(ship)) {
            return refused(NONE_SUCH);
        }
        if (noSeed(seed) || n < 1 || n > 60) {
            return refused(A_NUMBER);
        }
        int times = 0;
        int drawn = seed;
        for (int i = 0; i < n; i++) {
            for (int s = 0; s < port.shipCount; s++) {
                drawn = draw(drawn);
                if (s == ship && port.ships[s].isLateBy(drawn)) {
                    times++;
                }
            }
        }
        return answered(times);
    }

    // ---- acts

    public int lift(int ship, int from, int to) {
        if (noStack(ship, from) || to < 0 || to > QUAY) {
            return refused(NONE_SUCH);
        }
        if (from == to || now.height(ship, from) == 0) {
            return refused(NOT_SO);
        }
        keepNow();
        return answered(now.hoist(port, ship, from, to));
    }

    public int dawn() {
        if (!told) {
            return refused(NONE_SUCH);
        }
        if (now.day >= DAWNS) {
            return refused(NO_ROOM);
        }
        keepNow();
        return answered(now.breakDay(port));
    }

    public boolean open(int c, boolean night) {
        if (noCrate(c)) {
            return denied(NONE_SUCH);
        }
        if (now.opened[c] != UNOPENED) {
            return denied(NOT_SO);
        }
        keepNow();
        now.opened[c] = night ? BY_NIGHT : BY_DAY;
        return granted();
    }

    public boolean undo() {
        if (keptCount <= 0) {
            return denied(THERE_IS_NONE);
        }
        keptCount--;
        now.become(kept[keptCount]);
        return granted();
    }

    public int image() {
        if (!told) {
            return refused(NONE_SUCH);
        }
        if (imageCount >= IMAGES) {
            return refused(NO_ROOM);
        }
        images[imageCount].become(now);
        imageCount++;
        return answered(imageCount - 1);
    }

    public boolean back(int image) {
        if (image < 0 || image >= imageCount) {
            return denied(NONE_SUCH);
        }
        now.become(images[image]);
        keptCount = 0;
        return granted();
    }

    // ---- what is told

    public int led(int i) throws NoSuchElementException {
        int before = 0;
        for (int c = 0; c < port.crateCount; c++) {
            if (now.isBroken(port, c)) {
                if (before == i) {
                    return c;
                }
                before++;
            }
        }
        throw new NoSuchElementException("no such broken crate");
    }

    public int size(int what) {
        switch (what) {
            case 0:
                return port.straw;
            case 1:
                return port.wage;
            case 2:
                return port.shipCount;
            case 3:
                return port.crateCount;
            case 4:
                return port.townCount;
            case 5:
                return port.roadCount;
            case 6:
                return now.openedCount();
            case 7:
                return now.day;
            case 8:
                return now.lifts;
            case 9:
                return now.onQuay;
            case 10:
                return keptCount;
            case 11:
                return imageCount;
            case 12:
                return tapeLength;
            default:
                return NONE;
        }
    }

    public int trouble() {
        return trouble;
    }

    // ---- helpers of the face

    private int refused(int number) {
        trouble = number;
        return NONE;
    }

    private int answered(int answer) {
        trouble = 0;
        return answer;
    }

    private boolean denied(int number) {
        trouble = number;
        return false;
    }

    private boolean granted() {
        trouble = 0;
        return true;
    }

    // An object without a PORT has an empty one, so its counts refuse every index.
    private boolean noShip(int ship) {
        return ship < 0 || ship >= port.shipCount;
    }

    private boolean noStack(int ship, int stack) {
        return noShip(ship) || stack < 0 || stack >= STACKS;
    }

    private boolean noCrate(int c) {
        return c < 0 || c >= port.crateCount;
    }

    private boolean noTown(int town) {
        return town < 0 || town >= port.townCount;
    }

    private static boolean noNumber(int number) {
        return number < 1 || number > LAST_NUMBER;
    }

    private static boolean noComingDay(int day) {
        return day < 0 || day > 99;
    }

    private static boolean noHold(int days) {
        return days < 0 || days > LONGEST_HOLD;
    }

    private static boolean noSeed(int seed) {
        return seed < 0 || seed > LAST_SEED;
    }

    private void write(int four) {
        for (int shift = 24; shift >= 0 && tapeLength < TAPE_BYTES; shift -= 8) {
            tape[tapeLength] = (byte) (four >> shift);
            tapeLength++;
        }
    }

    private int hadInland(int town, int number) {
        int day = now.dayOfNumber(port, number);
        int daysThere = roads.lateOrNothing(town);
        return day < 0 || daysThere < 0 ? NOTHING : day + daysThere;
    }

    private static int draw(int seed) {
        return (75 * seed + 74) % 65537;
    }

    private static long inLowestTerms(long above, long below, boolean lower) {
        long divisor = commonDivisor(above, below);
        if (divisor <= 0) {
            return NONE;
        }
        return (lower ? below : above) / divisor;
    }

    private static long commonDivisor(long a, long b) {
        long greater = a;
        long lesser = b;
        // Euclid halves the numbers every other step, so 128 steps are enough for all longs.
        for (int i = 0; i < 128 && lesser != 0; i++) {
            long left = greater % lesser;
            greater = lesser;
            lesser = left;
        }
        return greater;
    }

    private void keepNow() {
        if (keptCount >= KEPT) {
            Yard oldest = kept[0];
            for (int i = 1; i < KEPT; i++) {
                kept[i - 1] = kept[i];
            }
            kept[KEPT - 1] = oldest;
            keptCount = KEPT - 1;
        }
        kept[keptCount].become(now);
        keptCount++;
    }

    /** A ship as told. */
    private static final class Ship {
        int day = 0;
        int chance = 0;
        int late = 0;
        int says = 0;
        int crates = 0;

        int hundredthsBy(int byDay) {
            if (byDay < day) {
                return 0;
            }
            return byDay < day + late ? 100 - chance : 100;
        }

        boolean isLateBy(int drawn) {
            return drawn % 100 < chance;
        }

        int comesOn(int drawn) {
            return isLateBy(drawn) ? day + late : day;
        }
    }

    /** A crate as told. */
    private static final class Crate {
        int kind = 0;
        int ship = 0;
        int stack = 0;
        int number = 0;
        int weighs = 0;
        int opened = 0;

        int effort() {
            return kind == LASHED ? 2 : 1;
        }
    }

    /** What a text tells; acts change nothing of it. */
    private static final class Port {
        int straw = 0;
        int wage = 0;
        int gang = 0;
        int council = 0;
        final Ship[] ships = new Ship[SHIPS];
        int shipCount = 0;
        final Crate[] crates = new Crate[CRATES];
        int crateCount = 0;
        final int[] people = new int[TOWNS];
        int townCount = 0;
        final int[][] roadDays = new int[TOWNS][TOWNS];
        int roadCount = 0;

        Port() {
            for (int s = 0; s < SHIPS; s++) {
                ships[s] = new Ship();
            }
            for (int c = 0; c < CRATES; c++) {
                crates[c] = new Crate();
            }
        }

        void empty() {
            shipCount = 0;
            crateCount = 0;
            townCount = 0;
            roadCount = 0;
            for (int a = 0; a < TOWNS; a++) {
                for (int b = 0; b < TOWNS; b++) {
                    roadDays[a][b] = 0;
                }
            }
        }

        boolean hasNumber(int number) {
            for (int c = 0; c < crateCount; c++) {
                if (crates[c].number == number) {
                    return true;
                }
            }
            return false;
        }

        int peopleOfAll() {
            int all = 0;
            for (int town = 0; town < townCount; town++) {
                all += people[town];
            }
            return all;
        }
    }

    /** Reads a text into a Port, up to the first FAULT. */
    private static final class Reader {
        private static final int END = 0;
        private static final int WORD = 1;
        private static final int WHOLE = 2;
        private static final int SEMICOLON = 3;
        private static final int NO_TOKEN = 4;

        private static final int OF_SHIP = 1;
        private static final int OF_CRATE = 2;
        private static final int OF_TOWN = 3;
        private static final int NAMES = SHIPS + CRATES + TOWNS;

        private final byte[] text;
        private int length = 0;
        private Port port;
        private boolean begun = false;

        // The token that is looked at: its kind, place, the place behind it, its letters or its value.
        private int kind = END;
        private int place = 0;
        private int stop = 0;
        private long letters = 0;
        private int value = 0;

        // What was taken last: its place, the value of a WHOLE, what a NAME stands for.
        private int takenPlace = 0;
        private int takenValue = 0;
        private int takenIndex = 0;

        private final long[] names = new long[NAMES];
        private final int[] nameSorts = new int[NAMES];
        private final int[] nameIndices = new int[NAMES];
        private int nameCount = 0;

        int fault = 0;
        int faultPlace = 0;

        Reader(byte[] tape, Port into) {
            text = tape;
            port = into;
        }

        boolean read(Port into, int n) {
            length = Math.min(n, text.length);
            port = into;
            port.empty();
            begun = false;
            nameCount = 0;
            fault = 0;
            faultPlace = 0;
            place = 0;
            stop = 0;
            step();
            if (!line()) {
                return false;
            }
            for (int i = 0; i < length && kind == SEMICOLON; i++) {
                step();
                if (!line()) {
                    return false;
                }
            }
            if (kind != END) {
                return wrong(FORM);
            }
            return (port.shipCount > 0 && port.townCount > 0) || wrong(LACKS);
        }

        private boolean wrong(int number) {
            fault = number;
            faultPlace = place;
            return false;
        }

        private boolean wrongBehind(int number) {
            fault = number;
            faultPlace = takenPlace;
            return false;
        }

        // ---- tokens

        // Signs that stand together are one token, however many: a run that is too long is none.
        private void step() {
            takenPlace = place;
            while (stop < length && text[stop] == ' ') {
                stop++;
            }
            place = stop;
            letters = 0;
            value = 0;
            kind = stop < length ? kindOf(text[stop]) : END;
            if (kind == SEMICOLON) {
                stop++;
            } else if (kind == WORD || kind == WHOLE) {
                while (stop < length && kindOf(text[stop]) == kind) {
                    letters = letters * 32 + (text[stop] - 'a' + 1);
                    value = value * 10 + (text[stop] - '0');
                    stop++;
                }
                if (stop - place > (kind == WORD ? 8 : 3)) {
                    kind = NO_TOKEN;
                }
            }
        }

        private static int kindOf(byte sign) {
            if (sign >= 'a' && sign <= 'z') {
                return WORD;
            }
            if (sign >= '0' && sign <= '9') {
                return WHOLE;
            }
            return sign == ';' ? SEMICOLON : NO_TOKEN;
        }

        private boolean is(String word) {
            if (kind != WORD || stop - place != word.length()) {
                return false;
            }
            for (int i = 0; i < word.length() && place + i < length; i++) {
                if (text[place + i] != word.charAt(i)) {
                    return false;
                }
            }
            return true;
        }

        // ---- parts of lines

        private boolean word(String word) {
            if (!is(word)) {
                return wrong(FORM);
            }
            step();
            return true;
        }

        private boolean wordAndWhole(String word, int low, int high) {
            if (!is(word)) {
                return wrong(FORM);
            }
            step();
            if (kind != WHOLE) {
                return wrong(FORM);
            }
            if (value < low || value > high) {
                return wrong(BOUNDS);
            }
            takenValue = value;
            step();
            return true;
        }

        private boolean beginsLine() {
            return is("port") || is("ship") || is("crate") || is("town") || is("road") || is("opened");
        }

        private int nameAt() {
            for (int i = 0; i < nameCount; i++) {
                if (names[i] == letters) {
                    return i;
                }
            }
            return NONE;
        }

        private boolean newName(int sort, int index) {
            if (kind != WORD || beginsLine()) {
                return wrong(FORM);
            }
            if (nameAt() >= 0) {
                return wrong(AGAIN);
            }
            if (nameCount < NAMES) {
                names[nameCount] = letters;
                nameSorts[nameCount] = sort;
                nameIndices[nameCount] = index;
                nameCount++;
            }
            step();
            return true;
        }

        private boolean toldName(int sort) {
            if (kind != WORD || beginsLine()) {
                return wrong(FORM);
            }
            int at = nameAt();
            if (at < 0 || nameSorts[at] != sort) {
                return wrong(UNTOLD);
            }
            takenIndex = nameIndices[at];
            step();
            return true;
        }

        // ---- lines

        private boolean line() {
            if (!beginsLine()) {
                return wrong(FORM);
            }
            if (is("port")) {
                return begun ? wrong(AGAIN) : portLine();
            }
            if (!begun) {
                return wrong(LACKS);
            }
            if (is("ship")) {
                return shipLine();
            }
            if (is("crate")) {
                return crateLine();
            }
            if (is("town")) {
                return townLine();
            }
            return is("road") ? roadLine() : openedLine();
        }

        private boolean portLine() {
            begun = true;
            step();
            if (!wordAndWhole("straw", 0, 999)) {
                return false;
            }
            port.straw = takenValue;
            if (!wordAndWhole("wage", 1, 99)) {
                return false;
            }
            port.wage = takenValue;
            if (!wordAndWhole("gang", 0, 30)) {
                return false;
            }
            port.gang = takenValue;
            if (!wordAndWhole("council", 0, 30)) {
                return false;
            }
            port.council = takenValue;
            return true;
        }

        private boolean shipLine() {
            if (port.shipCount >= SHIPS) {
                return wrong(MANY);
            }
            Ship ship = port.ships[port.shipCount];
            step();
            if (!newName(OF_SHIP, port.shipCount) || !wordAndWhole("day", 0, 60)) {
                return false;
            }
            ship.day = takenValue;
            if (!wordAndWhole("chance", 0, 100)) {
                return false;
            }
            ship.chance = takenValue;
            if (!wordAndWhole("late", 1, 30)) {
                return false;
            }
            ship.late = takenValue;
            if (!wordAndWhole("says", 0, 20)) {
                return false;
            }
            ship.says = takenValue;
            ship.crates = 0;
            port.shipCount++;
            return true;
        }

        private boolean crateLine() {
            step();
            if (!newName(OF_CRATE, port.crateCount)) {
                return false;
            }
            int crateKind = kindOfCrate();
            if (crateKind < 0) {
                return wrong(FORM);
            }
            step();
            if (!word("on") || !toldName(OF_SHIP)) {
                return false;
            }
            int ship = takenIndex;
            if (port.ships[ship].crates >= LOAD || port.crateCount >= CRATES) {
                return wrongBehind(MANY);
            }
            Crate crate = port.crates[port.crateCount];
            crate.kind = crateKind;
            crate.ship = ship;
            crate.opened = UNOPENED;
            if (!wordAndWhole("stack", 0, STACKS - 1)) {
                return false;
            }
            crate.stack = takenValue;
            if (!wordAndWhole("is", 1, LAST_NUMBER)) {
                return false;
            }
            if (port.hasNumber(takenValue)) {
                return wrongBehind(AGAIN);
            }
            crate.number = takenValue;
            if (!wordAndWhole("weighs", 1, HEAVIEST_CRATE)) {
                return false;
            }
            crate.weighs = takenValue;
            port.ships[ship].crates++;
            port.crateCount++;
            return true;
        }

        private int kindOfCrate() {
            if (is("plain")) {
                return PLAIN;
            }
            if (is("wet")) {
                return WET;
            }
            if (is("frail")) {
                return FRAIL;
            }
            return is("lashed") ? LASHED : NONE;
        }

        private boolean townLine() {
            if (port.townCount >= TOWNS) {
                return wrong(MANY);
            }
            step();
            if (!newName(OF_TOWN, port.townCount) || !wordAndWhole("people", 1, 99)) {
                return false;
            }
            port.people[port.townCount] = takenValue;
            port.townCount++;
            return true;
        }

        private boolean roadLine() {
            if (port.roadCount >= ROADS) {
                return wrong(MANY);
            }
            step();
            if (!toldName(OF_TOWN)) {
                return false;
            }
            int first = takenIndex;
            if (!toldName(OF_TOWN)) {
                return false;
            }
            int second = takenIndex;
            if (first == second || port.roadDays[first][second] > 0) {
                return wrongBehind(AGAIN);
            }
            if (!wordAndWhole("days", 1, 9)) {
                return false;
            }
            port.roadDays[first][second] = takenValue;
            port.roadDays[second][first] = takenValue;
            port.roadCount++;
            return true;
        }

        private boolean openedLine() {
            step();
            if (!toldName(OF_CRATE)) {
                return false;
            }
            Crate crate = port.crates[takenIndex];
            if (crate.opened != UNOPENED) {
                return wrongBehind(AGAIN);
            }
            if (is("night")) {
                crate.opened = BY_NIGHT;
            } else if (is("day")) {
                crate.opened = BY_DAY;
            } else {
                return wrong(FORM);
            }
            step();
            return true;
        }
    }

    /** All that acts change: where crates lie NOW, the day, what is opened. */
    private static final class Yard {
        private final int[] piles = new int[SHIPS * STACKS * LOAD];
        private final int[] heights = new int[SHIPS * STACKS];
        final int[] quayRow = new int[CRATES];
        int onQuay = 0;
        final int[] place = new int[CRATES];
        final int[] lifted = new int[CRATES];
        final int[] opened = new int[CRATES];
        // The day NOW when a crate came to the quay, and the day on which it was HAD.
        private final int[] cameOn = new int[CRATES];
        private final int[] hadDay = new int[CRATES];
        int day = 0;
        int lifts = 0;

        void begin(Port port) {
            onQuay = 0;
            day = 0;
            lifts = 0;
            for (int i = 0; i < SHIPS * STACKS; i++) {
                heights[i] = 0;
            }
            for (int c = 0; c < CRATES; c++) {
                boolean isTold = c < port.crateCount;
                place[c] = isTold ? port.crates[c].stack : GONE;
                opened[c] = isTold ? port.crates[c].opened : UNOPENED;
                lifted[c] = 0;
                cameOn[c] = 0;
                hadDay[c] = NOTHING;
                if (isTold) {
                    pile(port.crates[c].ship, port.crates[c].stack, c);
                }
            }
        }

        void become(Yard other) {
            System.arraycopy(other.piles, 0, piles, 0, piles.length);
            System.arraycopy(other.heights, 0, heights, 0, heights.length);
            System.arraycopy(other.quayRow, 0, quayRow, 0, CRATES);
            onQuay = other.onQuay;
            System.arraycopy(other.place, 0, place, 0, CRATES);
            System.arraycopy(other.lifted, 0, lifted, 0, CRATES);
            System.arraycopy(other.opened, 0, opened, 0, CRATES);
            System.arraycopy(other.cameOn, 0, cameOn, 0, CRATES);
            System.arraycopy(other.hadDay, 0, hadDay, 0, CRATES);
            day = other.day;
            lifts = other.lifts;
        }

        int height(int ship, int stack) {
            return heights[ship * STACKS + stack];
        }

        int crateAt(int ship, int stack, int i) {
            return piles[(ship * STACKS + stack) * LOAD + i];
        }

        private void pile(int ship, int stack, int c) {
            int i = ship * STACKS + stack;
            if (heights[i] < LOAD) {
                piles[i * LOAD + heights[i]] = c;
                heights[i]++;
            }
        }

        boolean isBroken(Port port, int c) {
            return port.crates[c].kind == FRAIL && lifted[c] >= 2;
        }

        boolean liesAboveLesser(Port port, int ship, int stack, int i) {
            int number = port.crates[crateAt(ship, stack, i)].number;
            for (int below = 0; below < i; below++) {
                if (port.crates[crateAt(ship, stack, below)].number < number) {
                    return true;
                }
            }
            return false;
        }

        int stackWeighs(Port port, int ship, int stack) {
            int together = 0;
            for (int i = 0; i < height(ship, stack); i++) {
                together += port.crates[crateAt(ship, stack, i)].weighs;
            }
            return together;
        }

        int openedCount() {
            int count = 0;
            for (int c = 0; c < CRATES; c++) {
                if (opened[c] != UNOPENED) {
                    count++;
                }
            }
            return count;
        }

        int firstDry(Port port) {
            for (int i = 0; i < onQuay; i++) {
                int c = quayRow[i];
                if (port.crates[c].kind != WET || day > cameOn[c]) {
                    return i;
                }
            }
            return NONE;
        }

        int numberHadOn(Port port, int onDay) {
            for (int c = 0; c < port.crateCount; c++) {
                if (hadDay[c] == onDay) {
                    return port.crates[c].number;
                }
            }
            return 0;
        }

        int dayOfNumber(Port port, int number) {
            for (int c = 0; c < port.crateCount; c++) {
                if (port.crates[c].number == number) {
                    return hadDay[c];
                }
            }
            return NOTHING;
        }

        /** The stack must not be empty. */
        int hoist(Port port, int ship, int from, int to) {
            int i = ship * STACKS + from;
            heights[i]--;
            int c = piles[i * LOAD + heights[i]];
            lifted[c]++;
            lifts += port.crates[c].effort();
            if (to < QUAY) {
                pile(ship, to, c);
                place[c] = to;
            } else if (isBroken(port, c)) {
                place[c] = GONE;
            } else {
                land(c);
            }
            return c;
        }

        private void land(int c) {
            if (onQuay < CRATES) {
                quayRow[onQuay] = c;
                onQuay++;
                place[c] = QUAY;
                cameOn[c] = day;
            }
        }

        int breakDay(Port port) {
            int i = firstDry(port);
            int number = 0;
            if (i >= 0) {
                int c = quayRow[i];
                number = port.crates[c].number;
                place[c] = HAD;
                hadDay[c] = day;
                onQuay--;
                for (int k = i; k < onQuay; k++) {
                    quayRow[k] = quayRow[k + 1];
                }
            }
            day++;
            return number;
        }
    }

    /** OUT: the fewest lifts by which a ship's crates come to the quay by NUMBERS. */
    private static final class Outing {
        // By clearing the least crate each time, five crates need at most 4 + 3 + 2 + 1 + 5 lifts of two each.
        private static final int MOST = 30;
        private static final int NOWHERE = -1;

        final int[] path = new int[MOST];
        int pathLength = 0;
        int fewestLifts = 0;
        boolean possible = false;

        // A ship's crates by rank: the least NUMBER that lies on its stacks is 0.
        private final int[] piles = new int[STACKS * LOAD];
        private final int[] heights = new int[STACKS];
        private final int[] efforts = new int[LOAD];
        private final boolean[] frail = new boolean[LOAD];
        private int count = 0;
        private int bound = 0;

        void solve(Port port, Yard now, int ship) {
            pathLength = 0;
            load(port, now, ship);
            possible = canCome(port, now, ship);
            if (!possible) {
                return;
            }
            boolean found = false;
            // LIFTS are tried by from and to, so of the fewest ones the first by these is found first.
            for (bound = stillNeeded(0); bound <= MOST && !found; bound++) {
                fewestLifts = bound;
                found = seek(0, 0, 0, NOWHERE);
            }
            possible = found;
        }

        private void load(Port port, Yard now, int ship) {
            count = 0;
            for (int stack = 0; stack < STACKS; stack++) {
                int height = Math.min(now.height(ship, stack), LOAD);
                heights[stack] = height;
                for (int i = 0; i < height; i++) {
                    int c = now.crateAt(ship, stack, i);
                    int rank = rankOf(port, now, c);
                    piles[stack * LOAD + i] = rank;
                    efforts[rank] = port.crates[c].effort();
                    frail[rank] = port.crates[c].kind == FRAIL;
                    count++;
                }
            }
        }

        private static int rankOf(Port port, Yard now, int c) {
            int rank = 0;
            for (int other = 0; other < port.crateCount; other++) {
                boolean onStack = port.crates[other].ship == port.crates[c].ship && now.place[other] < QUAY;
                if (onStack && port.crates[other].number < port.crates[c].number) {
                    rank++;
                }
            }
            return Math.min(rank, LOAD - 1);
        }

        // A frail crate bears one lift only, the one to the quay; every other crate can be put aside.
        private static boolean canCome(Port port, Yard now, int ship) {
            for (int stack = 0; stack < STACKS; stack++) {
                for (int i = 0; i < now.height(ship, stack); i++) {
                    int c = now.crateAt(ship, stack, i);
                    boolean isFrail = port.crates[c].kind == FRAIL;
                    if (isFrail && (now.lifted[c] > 0 || now.liesAboveLesser(port, ship, stack, i))) {
                        return false;
                    }
                }
            }
            return true;
        }

        /** At least so many LIFTS are to come: each crate's last, and one aside for each above a lesser one. */
        private int stillNeeded(int out) {
            int lifts = 0;
            for (int rank = out; rank < count; rank++) {
                lifts += efforts[rank];
            }
            for (int stack = 0; stack < STACKS; stack++) {
                int least = LOAD;
                for (int i = 0; i < heights[stack]; i++) {
                    int rank = piles[stack * LOAD + i];
                    if (rank > least) {
                        lifts += efforts[rank];
                    }
                    least = Math.min(least, rank);
                }
            }
            return lifts;
        }

        // The crate lifted last is left alone: lifting it once would have been fewer.
        private boolean seek(int out, int spent, int depth, int lastTo) {
            if (out >= count) {
                pathLength = depth;
                return true;
            }
            if (depth >= MOST) {
                return false;
            }
            for (int from = 0; from < STACKS; from++) {
                if (heights[from] > 0 && from != lastTo && seekFrom(from, out, spent, depth)) {
                    return true;
                }
            }
            return false;
        }

        private boolean seekFrom(int from, int out, int spent, int depth) {
            int rank = piles[from * LOAD + heights[from] - 1];
            int sum = spent + efforts[rank];
            for (int to = 0; to < STACKS; to++) {
                if (to != from && !frail[rank] && heights[to] < LOAD) {
                    path[depth] = 10 * from + to;
                    move(from, to);
                    boolean found = sum + stillNeeded(out) <= bound && seek(out, sum, depth + 1, to);
                    move(to, from);
                    if (found) {
                        return true;
                    }
                }
            }
            if (rank != out) {
                return false;
            }
            path[depth] = 10 * from + QUAY;
            heights[from]--;
            boolean found = sum + stillNeeded(out + 1) <= bound && seek(out + 1, sum, depth + 1, NOWHERE);
            // Searches put other crates into the free place, so the crate is laid back.
            piles[from * LOAD + heights[from]] = rank;
            heights[from]++;
            return found;
        }

        private void move(int from, int to) {
            heights[from]--;
            piles[to * LOAD + heights[to]] = piles[from * LOAD + heights[from]];
            heights[to]++;
        }
    }

    /** NIGHT and ASK: counts sets by their weights, as all that matters of a set is its straw. */
    private static final class Night {
        int sets = 0;
        int best = NOTHING;
        int bestLeaves = NOTHING;

        // How many sets of unopened crates weigh so much together.
        private final int[] ways = new int[CRATES * HEAVIEST_CRATE + 1];
        // What the unopened contraband must weigh together.
        private int goal = 0;

        void count(Port port, Yard now) {
            goal = port.straw;
            for (int i = 0; i < ways.length; i++) {
                ways[i] = 0;
            }
            ways[0] = 1;
            int most = 0;
            for (int c = 0; c < port.crateCount; c++) {
                int weighs = port.crates[c].weighs;
                goal -= now.opened[c] == BY_NIGHT ? 2 * weighs : weighs;
                if (now.opened[c] == UNOPENED) {
                    most += weighs;
                    addCrate(weighs, most);
                }
            }
            sets = waysOf(goal);
        }

        private void addCrate(int weighs, int most) {
            for (int sum = Math.min(most, ways.length - 1); sum >= weighs && sum >= 0; sum--) {
                ways[sum] += waysOf(sum - weighs);
            }
        }

        private int waysOf(int sum) {
            return sum < 0 || sum >= ways.length ? 0 : ways[sum];
        }

        int setsWith(Port port, Yard now, int c) {
            if (now.opened[c] != UNOPENED) {
                return now.opened[c] == BY_NIGHT ? sets : 0;
            }
            // Sets with c are those without it that weigh less by it; so on downwards, with changing signs.
            int weighs = Math.max(1, port.crates[c].weighs);
            int with = 0;
            int sign = 1;
            for (int sum = goal - weighs; sum >= 0; sum -= weighs) {
                with += sign * waysOf(sum);
                sign = -sign;
            }
            return with;
        }

        void choose(Port port, Yard now) {
            count(port, now);
            best = NOTHING;
            bestLeaves = NOTHING;
            if (sets == 0) {
                return;
            }
            for (int c = 0; c < port.crateCount; c++) {
                if (now.opened[c] == UNOPENED) {
                    int with = setsWith(port, now, c);
                    int leaves = Math.max(with, sets - with);
                    if (best < 0 || leaves < bestLeaves) {
                        best = c;
                        bestLeaves = leaves;
                    }
                }
            }
        }
    }

    /** Towns: SHARES, LATE and WAY. */
    private static final class Inland {
        private static final int NO_WAY = 1000000;

        private final int[][] apart = new int[TOWNS][TOWNS];

        void measure(Port port) {
            for (int a = 0; a < TOWNS; a++) {
                for (int b = 0; b < TOWNS; b++) {
                    int days = port.roadDays[a][b];
                    apart[a][b] = a == b ? 0 : days > 0 ? days : NO_WAY;
                }
            }
            for (int over = 0; over < TOWNS; over++) {
                for (int a = 0; a < TOWNS; a++) {
                    for (int b = 0; b < TOWNS; b++) {
                        apart[a][b] = Math.min(apart[a][b], apart[a][over] + apart[over][b]);
                    }
                }
            }
        }

        int lateOrNothing(int town) {
            return apart[0][town] < NO_WAY ? apart[0][town] : NOTHING;
        }

        int townOnWay(Port port, int town, int i) {
            if (apart[0][town] >= NO_WAY) {
                return NONE;
            }
            int here = 0;
            for (int at = 0; at < TOWNS; at++) {
                if (at == i) {
                    return here;
                }
                here = onward(port, here, town);
                if (here < 0) {
                    return NONE;
                }
            }
            return NONE;
        }

        private int onward(Port port, int here, int town) {
            for (int to = 0; to < port.townCount; to++) {
                int days = port.roadDays[here][to];
                if (days > 0 && days + apart[to][town] == apart[here][town]) {
                    return to;
                }
            }
            return NONE;
        }

        int minutesOf(Port port, int town, int minutes) {
            int all = port.peopleOfAll();
            if (all <= 0) {
                return 0;
            }
            int left = minutes;
            int ahead = 0;
            int own = minutes * port.people[town] % all;
            for (int t = 0; t < port.townCount; t++) {
                int product = minutes * port.people[t];
                left -= product / all;
                if (product % all > own || (product % all == own && t < town)) {
                    ahead++;
                }
            }
            return minutes * port.people[town] / all + (ahead < left ? 1 : 0);
        }
    }

    /** THE STRIKE and its RESTS. */
    private static final class Strike {
        private static final int HOLDS = LONGEST_HOLD + 1;

        final int[] restRow = new int[HOLDS * HOLDS];
        int restCount = 0;

        private final int[] gangBest = new int[HOLDS];
        private final int[] councilBest = new int[HOLDS];

        static int ofGang(Port port, int gang, int council) {
            int won = gang > council ? port.wage : 0;
            return won - Math.min(gang, council) * port.gang;
        }

        static int ofCouncil(Port port, int gang, int council) {
            int paid = gang > council ? port.wage : 0;
            return -paid - Math.min(gang, council) * port.council;
        }

        void settle(Port port) {
            for (int held = 0; held < HOLDS; held++) {
                gangBest[held] = ofGang(port, 0, held);
                councilBest[held] = ofCouncil(port, held, 0);
                for (int other = 1; other < HOLDS; other++) {
                    gangBest[held] = Math.max(gangBest[held], ofGang(port, other, held));
                    councilBest[held] = Math.max(councilBest[held], ofCouncil(port, held, other));
                }
            }
            restCount = 0;
            for (int gang = 0; gang < HOLDS; gang++) {
                for (int council = 0; council < HOLDS; council++) {
                    boolean gangRests = ofGang(port, gang, council) == gangBest[council];
                    if (gangRests && ofCouncil(port, gang, council) == councilBest[gang]) {
                        restRow[restCount] = 10 * gang + council;
                        restCount++;
                    }
                }
            }
        }
    }
}
