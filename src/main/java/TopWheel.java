import java.util.Arrays;
import java.util.NoSuchElementException;

/** A wheel whose top cradle governs. What each call must do stands in the document, as promises. */
public final class TopWheel {
    public static final int NONE = -1;

    private static final int CRADLES = 8;
    private static final int RIDERS = 8;
    private static final int PARTIES = 4;
    /** Cradles and riders are eight each, so their low three bits are always a number that can be. */
    private static final int RING = 7;
    private static final int PARTY_RING = 3;
    private static final int SEATS = 2;
    private static final int MOST_BOLTS = 9;
    private static final int MOST_FARE = 99;
    private static final int MOST_CHEST = 9999;
    private static final int MOST_PURSE = 999;
    private static final int MOST_STOP = 9999;
    private static final int STEP_COST = 10;

    private static final int TAPE_BYTES = 400;
    private static final int FED_BYTES = 20;
    private static final int CLUE_BYTES = 40;
    private static final int MOST_TEXTS = 12;
    private static final int MOST_CALL_STOPS = 60;
    private static final int MOST_AHEAD = 100;
    private static final int MOST_ROUND = 64;
    private static final int MOST_ODDS_STOPS = 5;
    private static final int SPAN_SEEDS = 6;
    private static final int NO_ROW = -2;

    private static final int MOST_MOVE = 30;
    private static final int MOST_FARTHER = 9;
    private static final int MOST_REACH = 8;
    private static final int MOST_WATCHED = 17;
    private static final int HEIGHTS = 5;

    private static final int GO = 0;
    private static final int MORE = 1;
    private static final int LESS = 2;

    private static final int FACTS = 9;
    private static final int RICH = 7;
    private static final int ALONE = 8;

    private final Tape tape = new Tape();
    private final Things things = new Things(tape);
    private final Wheel wheel = new Wheel();
    /** Where a text, a trial or what is ahead is played out, so that nothing of it stays. */
    private final Wheel spare = new Wheel();
    private final FairReader fairReader = new FairReader(things, spare);
    private final LawReader lawReader = new LawReader(things);
    private final Journal journal = new Journal();
    private final Acts acts = new Acts();
    private final Keep picture = new Keep();
    private boolean pictured = false;
    private int texts = 0;
    private int wrongByte = NONE;

    public TopWheel() {
    }

    // ---- the tape and the texts ----

    public int feed(int a, int b, int c, int d, int e) {
        if (tape.length + FED_BYTES > TAPE_BYTES) {
            return NONE;
        }
        tape.add(a);
        tape.add(b);
        tape.add(c);
        tape.add(d);
        tape.add(e);
        return tape.length;
    }

    public boolean end(int n) {
        if (n < 0 || n > tape.length) {
            return false;
        }
        tape.length = n;
        return true;
    }

    public int fair() throws IllegalArgumentException, UnsupportedOperationException {
        spare.copy(wheel);
        fairReader.read();
        useText();
        if (texts >= MOST_TEXTS) {
            throw new UnsupportedOperationException("there are 12 texts of the fair");
        }
        wheel.copy(spare);
        texts++;
        acts.forget();
        return texts;
    }

    public int law() throws IllegalArgumentException {
        lawReader.clear();
        lawReader.read();
        useText();
        wheel.rule = new Law(lawReader);
        acts.forget();
        return wheel.rule.lines;
    }

    public int fault() {
        return wrongByte;
    }

    private void useText() {
        tape.length = 0;
        wrongByte = things.wrong;
        if (wrongByte != NONE) {
            throw new IllegalArgumentException("the text is wrong");
        }
    }

    // ---- what there is ----

    public int rider(int rider, int what) throws IndexOutOfBoundsException, NoSuchElementException {
        needRider(rider);
        int cradle = wheel.place[rider];
        switch (what) {
            case 0:
                return cradle;
            case 1:
                return wheel.weight[rider];
            case 2:
                return wheel.purse[rider];
            case 3:
                return wheel.side[rider];
            case 4:
                return cradle == NONE ? 0 : wheel.owesBy(rider, wheel.price);
            case 5:
                return cradle == NONE ? NONE : wheel.height(cradle);
            case 6:
                return levelWith(rider);
            case 7:
                return wheel.queuedAt(rider);
            default:
                throw new NoSuchElementException("a rider has no such thing");
        }
    }

    public int cradle(int cradle, int what) throws IndexOutOfBoundsException, NoSuchElementException {
        needCradle(cradle);
        switch (what) {
            case 0:
                return wheel.bolts[cradle];
            case 1:
                return wheel.ridersIn(cradle);
            case 2:
                return wheel.places(cradle);
            case 3:
                return wheel.height(cradle);
            case 4:
                return weightOf(wheel.ridersIn(cradle));
            case 5:
                return wheel.costOf(cradle);
            default:
                throw new NoSuchElementException("a cradle has no such thing");
        }
    }

    public int party(int party, int what) throws IndexOutOfBoundsException, NoSuchElementException {
        needParty(party);
        switch (what) {
            case 0:
                return wheel.terms[party];
            case 1:
                return ridersOf(1 << party);
            case 2:
                return seatedWeight(1 << party);
            case 3:
                return powerOf(1 << party);
            default:
                throw new NoSuchElementException("a party has no such thing");
        }
    }

    public int governor() {
        return wheel.firstIn(wheel.top);
    }

    public int farther() {
        return wheel.goesFarther();
    }

    public int richest() {
        return richestOf((1 << wheel.riders) - 1);
    }

    public int room() {
        int open = 0;
        for (int c = 0; c < CRADLES; c++) {
            if (wheel.isOpen(c)) {
                open |= 1 << c;
            }
        }
        return open;
    }

    public int pairs() {
        int alike = 0;
        for (int c = 0; c < CRADLES; c++) {
            int in = wheel.ridersIn(c);
            for (int p = 0; p < PARTIES; p++) {
                if (Integer.bitCount(in & ridersOf(1 << p)) == SEATS) {
                    alike++;
                }
            }
        }
        return alike;
    }

    public int weakest() {
        int least = 0;
        for (int c = 1; c < CRADLES; c++) {
            if (wheel.bolts[c] < wheel.bolts[least]) {
                least = c;
            }
        }
        return least;
    }

    public int count(int what) {
        switch (what) {
            case 0:
                return wheel.riders;
            case 1:
                return texts;
            case 2:
                return wheel.rule.lines;
            case 3:
                return wheel.stop;
            case 4:
                return wheel.top;
            case 5:
                return wheel.price;
            case 6:
                return wheel.chest;
            case 7:
                return wheel.reach;
            case 8:
                return wheel.wind;
            case 9:
                return wheel.waiting;
            case 10:
                return closedCradles();
            case 11:
                return allPurses();
            case 12:
                return allBolts();
            case 13:
                return journal.rows;
            case 14:
                return acts.kept;
            default:
                return NONE;
        }
    }

    private int levelWith(int rider) {
        int cradle = wheel.place[rider];
        int level = 0;
        for (int r = 0; cradle != NONE && r < wheel.riders; r++) {
            int other = wheel.place[r];
            if (r != rider && other != NONE && wheel.height(other) == wheel.height(cradle)) {
                level |= 1 << r;
            }
        }
        return level;
    }

    /** The riders of a set of parties, seated or not. */
    private int ridersOf(int parties) {
        int found = 0;
        for (int r = 0; r < wheel.riders; r++) {
            if ((parties >> wheel.side[r] & 1) == 1) {
                found |= 1 << r;
            }
        }
        return found;
    }

    private int weightOf(int riders) {
        int sum = 0;
        for (int r = 0; r < wheel.riders; r++) {
            if ((riders >> r & 1) == 1) {
                sum += wheel.weight[r];
            }
        }
        return sum;
    }

    private int richestOf(int riders) {
        int found = NONE;
        int most = NONE;
        for (int r = 0; r < wheel.riders; r++) {
            if ((riders >> r & 1) == 1 && wheel.purse[r] > most) {
                found = r;
                most = wheel.purse[r];
            }
        }
        return found;
    }

    private int closedCradles() {
        int closed = 0;
        for (int c = 0; c < CRADLES; c++) {
            if (wheel.bolts[c] == 0) {
                closed |= 1 << c;
            }
        }
        return closed;
    }

    private int allPurses() {
        int sum = 0;
        for (int r = 0; r < wheel.riders; r++) {
            sum += wheel.purse[r];
        }
        return sum;
    }

    private int allBolts() {
        int sum = 0;
        for (int c = 0; c < CRADLES; c++) {
            sum += wheel.bolts[c];
        }
        return sum;
    }

    // ---- acts ----

    public int board(int rider, int cradle) throws IndexOutOfBoundsException, IllegalStateException {
        needRider(rider);
        needCradle(cradle);
        if (wheel.place[rider] != NONE || !wheel.isOpen(cradle)) {
            throw new IllegalStateException("it does not wait, or cannot get in there");
        }
        rememberAct();
        wheel.getIn(rider, cradle);
        return Integer.bitCount(wheel.ridersIn(cradle));
    }

    public int move(int rider, boolean up) throws IndexOutOfBoundsException, IllegalStateException {
        needRider(rider);
        int from = wheel.place[rider];
        int to = (up ? from + 1 : from - 1) & RING;
        if (from == NONE || !wheel.isOpen(to)) {
            throw new IllegalStateException("it waits, or cannot get in there");
        }
        rememberAct();
        wheel.place[rider] = to;
        return to;
    }

    public int off(int rider) throws IndexOutOfBoundsException, IllegalStateException {
        needRider(rider);
        if (wheel.place[rider] == NONE) {
            throw new IllegalStateException("it waits");
        }
        rememberAct();
        wheel.getOff(rider);
        return wheel.waiting;
    }

    public int bolt(int cradle) throws IndexOutOfBoundsException, IllegalStateException {
        needCradle(cradle);
        if (wheel.bolts[cradle] >= MOST_BOLTS) {
            throw new IllegalStateException("there are 9 bolts");
        }
        rememberAct();
        wheel.bolts[cradle]++;
        return wheel.bolts[cradle];
    }

    public int dole(int rider, int n) throws IndexOutOfBoundsException, IllegalArgumentException {
        needRider(rider);
        needNumber(n, 1, wheel.chest);
        rememberAct();
        wheel.chest -= n;
        wheel.purse[rider] = Math.min(MOST_PURSE, wheel.purse[rider] + n);
        return wheel.purse[rider];
    }

    public int fare(int n) throws IllegalArgumentException {
        needNumber(n, 0, MOST_FARE);
        rememberAct();
        int before = wheel.price;
        wheel.price = n;
        return before;
    }

    public int bribe(int n) throws IllegalArgumentException, IllegalStateException {
        needNumber(n, 1, RING);
        if (wheel.chest < STEP_COST * n) {
            throw new IllegalStateException("the chest has less");
        }
        rememberAct();
        wheel.chest -= STEP_COST * n;
        wheel.top = (wheel.top + n) & RING;
        return wheel.top;
    }

    public int stops(int n) throws IllegalArgumentException {
        needNumber(n, 1, MOST_CALL_STOPS);
        rememberAct();
        int sum = 0;
        for (int i = 0; i < n; i++) {
            int number = wheel.stop;
            wheel.halt(wheel.draw(), true);
            journal.add(number, wheel.top, wheel.head, wheel.paid);
            sum += wheel.paid;
        }
        return sum;
    }

    public int seed(int n) {
        int before = wheel.grain;
        wheel.grain = n;
        return before;
    }

    public boolean undo() {
        Keep latest = acts.latest();
        if (latest == null) {
            return false;
        }
        goTo(latest);
        acts.drop();
        return true;
    }

    public void image() {
        picture.hold(wheel, journal, texts);
        pictured = true;
    }

    public boolean back() {
        if (!pictured) {
            return false;
        }
        goTo(picture);
        acts.forget();
        return true;
    }

    private void rememberAct() {
        acts.remember(wheel, journal, texts);
    }

    private void goTo(Keep kept) {
        wheel.copy(kept.wheel);
        journal.copy(kept.journal);
        texts = kept.texts;
    }

    // ---- the log ----

    public int led(int rider, boolean stop) throws IndexOutOfBoundsException {
        needRider(rider);
        int times = 0;
        int latest = NONE;
        for (int ago = journal.rows - 1; ago >= 0; ago--) {
            if (journal.told(ago, Journal.GOVERNOR) == rider) {
                times++;
                latest = journal.told(ago, Journal.STOP);
            }
        }
        return stop ? latest : times;
    }

    public int log(int ago, int what) throws NoSuchElementException {
        if (what < 0 || what >= Journal.COLUMNS) {
            throw new NoSuchElementException("a row has no such thing");
        }
        return journal.told(ago, what);
    }

    // ---- odds ----

    public int odds(int cradle, int n) throws IndexOutOfBoundsException, IllegalArgumentException {
        needCradle(cradle);
        needNumber(n, 1, MOST_ODDS_STOPS);
        return oddsBy(n)[cradle];
    }

    public int best(int n) throws IllegalArgumentException {
        needNumber(n, 1, MOST_ODDS_STOPS);
        int[] chances = oddsBy(n);
        int found = NONE;
        for (int c = 0; c < CRADLES; c++) {
            if (wheel.isOpen(c) && (found == NONE || chances[c] > chances[found])) {
                found = c;
            }
        }
        return found;
    }

    public int rules(int party, int n) throws IndexOutOfBoundsException, IllegalArgumentException {
        needParty(party);
        needNumber(n, 1, MOST_ODDS_STOPS);
        int[] chances = oddsBy(n);
        int sum = 0;
        for (int c = 0; c < CRADLES; c++) {
            int first = wheel.firstIn(c);
            if (first != NONE && wheel.side[first] == party) {
                sum += chances[c];
            }
        }
        return sum;
    }

    /** In how many ten thousandths each cradle is on top behind n stops. */
    private int[] oddsBy(int n) {
        int[] ways = new int[CRADLES];
        ways[wheel.top & RING] = 1;
        int all = 1;
        for (int i = 0; i < n; i++) {
            int[] next = new int[CRADLES];
            for (int c = 0; c < CRADLES; c++) {
                for (int step = 1; step <= wheel.reach; step++) {
                    next[(c + step) & RING] += ways[c];
                }
            }
            ways = next;
            all *= wheel.reach;
        }
        for (int c = 0; c < CRADLES && all > 0; c++) {
            ways[c] = ways[c] * 10000 / all;
        }
        return ways;
    }

    // ---- leaning ----

    public int lean() {
        return leanWithout(0);
    }

    public int seat(int rider) throws IndexOutOfBoundsException {
        needRider(rider);
        int others = leanWithout(1 << rider);
        int found = NONE;
        int nearest = 0;
        for (int c = 0; c < CRADLES; c++) {
            int tilt = Math.abs(others + wheel.lever(c) * wheel.weight[rider]);
            boolean can = wheel.place[rider] == c || wheel.isOpen(c);
            if (can && (found == NONE || tilt < nearest)) {
                found = c;
                nearest = tilt;
            }
        }
        return found;
    }

    public int shifts() {
        int seated = seatedRiders();
        int found = seated;
        for (int set = 0; set < seated; set++) {
            boolean fewer = Integer.bitCount(set) < Integer.bitCount(found);
            if ((set & ~seated) == 0 && fewer && leanWithout(set) == 0) {
                found = set;
            }
        }
        return found;
    }

    private int leanWithout(int missing) {
        int sum = 0;
        for (int r = 0; r < wheel.riders; r++) {
            if (wheel.place[r] != NONE && (missing >> r & 1) == 0) {
                sum += wheel.lever(wheel.place[r]) * wheel.weight[r];
            }
        }
        return sum;
    }

    private int seatedRiders() {
        int seated = 0;
        for (int r = 0; r < wheel.riders; r++) {
            if (wheel.place[r] != NONE) {
                seated |= 1 << r;
            }
        }
        return seated;
    }

    // ---- parties ----

    public int majority() {
        int found = 0;
        for (int set = 1; set < 1 << PARTIES; set++) {
            boolean fewer = found == 0 || Integer.bitCount(set) < Integer.bitCount(found);
            if (fewer && isMajority(set)) {
                found = set;
            }
        }
        return found;
    }

    public int rests(int party, int other) throws IndexOutOfBoundsException, IllegalArgumentException {
        needParty(party);
        needParty(other);
        if (party == other) {
            throw new IllegalArgumentException("both are one");
        }
        int found = 0;
        for (int choice = 0; choice < 4; choice++) {
            int price = priceBy(choice);
            boolean stays = purseOf(party, priceBy(choice ^ 2)) <= purseOf(party, price);
            boolean otherStays = purseOf(other, priceBy(choice ^ 1)) <= purseOf(other, price);
            if (stays && otherStays) {
                found |= 1 << choice;
            }
        }
        return found;
    }

    /** The fare, when the two bits of the choice are what either party asks for. */
    private int priceBy(int choice) {
        if (choice == 0) {
            return Math.min(MOST_FARE, wheel.price + 1);
        }
        return choice == 3 ? Math.max(0, wheel.price - 1) : wheel.price;
    }

    /** What is left to a party's seated riders when each has paid once by that fare. */
    private int purseOf(int party, int price) {
        int sum = 0;
        for (int r = 0; r < wheel.riders; r++) {
            if (wheel.place[r] != NONE && wheel.side[r] == party) {
                sum += Math.max(0, wheel.purse[r] - wheel.owesBy(r, price));
            }
        }
        return sum;
    }

    private int seatedWeight(int parties) {
        return weightOf(ridersOf(parties) & seatedRiders());
    }

    private boolean isMajority(int parties) {
        return 2 * seatedWeight(parties) > weightOf(seatedRiders());
    }

    /** In how many sets of the others the party (told as a set of one) turns none into a majority. */
    private int powerOf(int party) {
        int times = 0;
        for (int set = 0; set < 1 << PARTIES; set++) {
            if ((set & party) == 0 && !isMajority(set) && isMajority(set | party)) {
                times++;
            }
        }
        return times;
    }

    // ---- what a bribe brings ----

    public int affords() {
        int found = 0;
        for (int c = 0; c < CRADLES; c++) {
            if (wheel.costOf(c) <= wheel.chest) {
                found |= 1 << c;
            }
        }
        return found;
    }

    public int reign() {
        int able = 0;
        for (int c = 0; c < CRADLES; c++) {
            int first = wheel.firstIn(c);
            if (first != NONE && wheel.costOf(c) <= wheel.chest) {
                able |= 1 << first;
            }
        }
        return richestOf(able);
    }

    // ---- moves and fires that were seen ----

    public int moves(boolean reach) throws IllegalArgumentException {
        needMoves();
        int low = tape.least(MOST_MOVE + 1);
        int high = tape.greatest();
        tape.length = 0;
        return reach ? leastReach(low, high) : fittingPairs(low, high, 0);
    }

    public int watch() throws IllegalArgumentException {
        needMoves();
        int low = tape.least(MOST_MOVE + 1);
        int high = tape.greatest();
        tape.length = 0;
        int all = fittingPairs(low, high, 0);
        int found = NONE;
        int smallest = all + 1;
        for (int seen = 1; seen <= MOST_WATCHED && all > 1; seen++) {
            int can = fittingPairs(low, high, seen);
            int greater = Math.max(can, all - can);
            if (greater < smallest) {
                found = seen;
                smallest = greater;
            }
        }
        return found;
    }

    public int fire() throws IllegalArgumentException {
        needFires();
        int fitting = tape.fireHeights();
        tape.length = 0;
        return fitting;
    }

    public int ask() throws IllegalArgumentException {
        needFires();
        int fitting = tape.fireHeights();
        tape.length = 0;
        int all = Integer.bitCount(fitting);
        int found = NONE;
        int smallest = all + 1;
        for (int h = 0; h < HEIGHTS && all > 1; h++) {
            int seen = Integer.bitCount(fitting & ((2 << h) - 1));
            int greater = Math.max(seen, all - seen);
            if (greater < smallest) {
                found = h;
                smallest = greater;
            }
        }
        return found;
    }

    private static boolean canMove(int farther, int reach, int low, int high) {
        return farther + 1 <= low && high <= farther + reach;
    }

    private static int leastReach(int low, int high) {
        for (int r = 1; r <= MOST_REACH; r++) {
            for (int f = 0; f <= MOST_FARTHER; f++) {
                if (canMove(f, r, low, high)) {
                    return r;
                }
            }
        }
        return NONE;
    }

    /** How many pairs fit moves from low to high and one that is seen besides (0: none is). */
    private static int fittingPairs(int low, int high, int seen) {
        int fitting = 0;
        for (int r = 1; r <= MOST_REACH; r++) {
            for (int f = 0; f <= MOST_FARTHER; f++) {
                boolean too = seen == 0 || canMove(f, r, seen, seen);
                if (too && canMove(f, r, low, high)) {
                    fitting++;
                }
            }
        }
        return fitting;
    }

    private void needMoves() {
        boolean right = tape.length <= CLUE_BYTES;
        for (int i = 0; right && i < tape.length; i++) {
            right = tape.bytes[i] >= 1 && tape.bytes[i] <= MOST_MOVE;
        }
        needTape(right);
    }

    private void needFires() {
        boolean right = tape.length <= CLUE_BYTES && (tape.length & 1) == 0;
        for (int i = 0; right && i < tape.length; i++) {
            int most = (i & 1) == 0 ? HEIGHTS - 1 : 1;
            right = tape.bytes[i] <= most;
        }
        needTape(right);
    }

    /** A tape that is wrong is used up, too. */
    private void needTape(boolean right) {
        if (!right) {
            tape.length = 0;
            throw new IllegalArgumentException("the tape is not that");
        }
    }

    // ---- what is ahead ----

    public int boards(int rider, int draw) throws IndexOutOfBoundsException, IllegalArgumentException {
        needRider(rider);
        needDraw(draw);
        spare.copy(wheel);
        for (int n = 0; n <= MOST_AHEAD; n++) {
            if (spare.place[rider] != NONE) {
                return n;
            }
            spare.halt(draw, false);
        }
        return NONE;
    }

    public int ruled(int rider, int draw) throws IndexOutOfBoundsException, IllegalArgumentException {
        needRider(rider);
        needDraw(draw);
        spare.copy(wheel);
        for (int n = 0; n <= MOST_AHEAD; n++) {
            if (spare.firstIn(spare.top) == rider) {
                return n;
            }
            spare.halt(draw, false);
        }
        return NONE;
    }

    public int round(int draw) throws IllegalArgumentException {
        needDraw(draw);
        spare.copy(wheel);
        for (int n = 1; n <= MOST_ROUND; n++) {
            spare.halt(draw, false);
            if (spare.sitsLike(wheel)) {
                return n;
            }
        }
        return NONE;
    }

    public int ruin(int draw, int n) throws IllegalArgumentException {
        needDraw(draw);
        needNumber(n, 0, MOST_AHEAD);
        goAhead(draw, n);
        int poor = 0;
        for (int r = 0; r < spare.riders; r++) {
            if (spare.purse[r] == 0) {
                poor |= 1 << r;
            }
        }
        return poor;
    }

    public int ahead(int draw, int n, int what) throws IllegalArgumentException, NoSuchElementException {
        needDraw(draw);
        needNumber(n, 0, MOST_AHEAD);
        if (what < 0 || what > 2) {
            throw new NoSuchElementException("there is no such thing ahead");
        }
        goAhead(draw, n);
        if (what == 0) {
            return spare.top;
        }
        return what == 1 ? spare.firstIn(spare.top) : spare.chest;
    }

    public int trial(int n, boolean waiting) throws IllegalArgumentException {
        needNumber(n, 0, MOST_CALL_STOPS);
        tryStops(n, wheel.grain);
        return waiting ? spare.waiting : spare.chest;
    }

    public int span(int n, boolean most) throws IllegalArgumentException {
        needNumber(n, 0, MOST_CALL_STOPS);
        int least = MOST_CHEST;
        int greatest = 0;
        for (int grain = 1; grain <= SPAN_SEEDS; grain++) {
            tryStops(n, grain);
            least = Math.min(least, spare.chest);
            greatest = Math.max(greatest, spare.chest);
        }
        return most ? greatest : least;
    }

    private void goAhead(int draw, int n) {
        spare.copy(wheel);
        for (int i = 0; i < n; i++) {
            spare.halt(draw, false);
        }
    }

    private void tryStops(int n, int grain) {
        spare.copy(wheel);
        spare.grain = grain;
        for (int i = 0; i < n; i++) {
            spare.halt(spare.draw(), true);
        }
    }

    // ---- what a call must be given ----

    private void needRider(int rider) {
        if (rider < 0 || rider >= wheel.riders) {
            throw new IndexOutOfBoundsException("there is no such rider");
        }
    }

    private static void needCradle(int cradle) {
        if (cradle < 0 || cradle >= CRADLES) {
            throw new IndexOutOfBoundsException("there is no such cradle");
        }
    }

    private static void needParty(int party) {
        if (party < 0 || party >= PARTIES) {
            throw new IndexOutOfBoundsException("there is no such party");
        }
    }

    private static void needNumber(int n, int least, int most) {
        if (n < least || n > most) {
            throw new IllegalArgumentException("the number is none");
        }
    }

    private void needDraw(int draw) {
        needNumber(draw, 0, wheel.reach - 1);
    }

    /** The bytes that were fed and not used up yet. */
    private static final class Tape {
        final int[] bytes = new int[TAPE_BYTES];
        int length = 0;

        void add(int number) {
            for (int shift = 24; shift >= 0; shift -= 8) {
                if (length < bytes.length) {
                    bytes[length] = number >>> shift & 255;
                    length++;
                }
            }
        }

        int least(int without) {
            int low = without;
            for (int i = 0; i < length; i++) {
                low = Math.min(low, bytes[i]);
            }
            return low;
        }

        int greatest() {
            int high = 0;
            for (int i = 0; i < length; i++) {
                high = Math.max(high, bytes[i]);
            }
            return high;
        }

        /** Of pairs of a height and whether the fire was seen there: from which heights on it may be seen. */
        int fireHeights() {
            int fitting = 0;
            for (int from = 0; from <= HEIGHTS; from++) {
                boolean fits = true;
                for (int i = 0; i + 1 < length; i += 2) {
                    boolean seen = bytes[i + 1] == 1;
                    fits = fits && seen == bytes[i] >= from;
                }
                fitting |= fits ? 1 << from : 0;
            }
            return fitting;
        }
    }

    /**
     * The words, numbers and signs of a text, and the first wrong one. The last thing is an empty one at
     * the text's end: it is like no word, so that a reader that has gone wrong and stands there finds
     * nothing more, and falls through its lines without a test behind each of them.
     */
    private static final class Things {
        private static final int MOST_DIGITS = 3;

        private final Tape text;
        private final int[] begin = new int[TAPE_BYTES + 1];
        private final int[] end = new int[TAPE_BYTES + 1];
        private int last = 0;
        private int at = 0;
        int wrong = NONE;

        Things(Tape text) {
            this.text = text;
        }

        void split() {
            last = 0;
            at = 0;
            wrong = NONE;
            int length = text.length;
            int next = 0;
            while (next < length) {
                int from = next;
                int kind = kindOf(text.bytes[from]);
                next++;
                while (next < length && kind >= 0 && kindOf(text.bytes[next]) == kind) {
                    next++;
                }
                if (text.bytes[from] != ' ') {
                    begin[last] = from;
                    end[last] = next;
                    last++;
                }
            }
            begin[last] = length;
            end[last] = length;
        }

        /** Letters go on, and so do digits; any other byte is a thing by itself. */
        private static int kindOf(int sign) {
            if (sign >= 'a' && sign <= 'z') {
                return 0;
            }
            return sign >= '0' && sign <= '9' ? 1 : NONE;
        }

        boolean atEnd() {
            return at >= last;
        }

        boolean takes(String word) {
            int from = begin[at];
            boolean alike = end[at] - from == word.length();
            for (int i = 0; alike && i < word.length(); i++) {
                alike = text.bytes[from + i] == word.charAt(i);
            }
            if (alike) {
                at++;
            }
            return alike;
        }

        void must(String word) {
            if (!takes(word)) {
                refuse();
            }
        }

        /** The number that is next; NONE if that is none, or has too many digits. */
        int value() {
            int digits = end[at] - begin[at];
            if (digits < 1 || digits > MOST_DIGITS) {
                return NONE;
            }
            int number = 0;
            for (int i = begin[at]; i < end[at]; i++) {
                int digit = text.bytes[i] - '0';
                if (digit < 0 || digit > 9) {
                    return NONE;
                }
                number = number * 10 + digit;
            }
            return number;
        }

        int number(int least, int most) {
            int number = value();
            if (number < least || number > most) {
                refuse();
                return least;
            }
            pass();
            return number;
        }

        void pass() {
            if (at < last) {
                at++;
            }
        }

        void refuse() {
            if (wrong == NONE) {
                wrong = begin[at];
            }
            at = last;
        }
    }

    /** Reads lines with ; between them, of whichever kind. */
    private abstract static class Reader {
        final Things things;
        private final int mostLines;

        Reader(Things things, int mostLines) {
            this.things = things;
            this.mostLines = mostLines;
        }

        abstract void readLine();

        void read() {
            things.split();
            if (things.atEnd()) {
                return;
            }
            readLine();
            for (int lines = 1; lines < mostLines && things.takes(";"); lines++) {
                readLine();
            }
            // A line too many is wrong at its first word, not at the sign ahead of it.
            if (things.takes(";") || !things.atEnd()) {
                things.refuse();
            }
        }
    }

    /** Reads the fair into a draft of the wheel. */
    private static final class FairReader extends Reader {
        private static final int MOST_LINES = 14;

        private final Wheel draft;

        FairReader(Things things, Wheel draft) {
            super(things, MOST_LINES);
            this.draft = draft;
        }

        void readLine() {
            // A rider too many falls through to the words that cannot stand here.
            if (draft.riders < RIDERS && things.takes("rider")) {
                readRider();
            } else if (things.takes("bolts")) {
                int cradle = things.number(0, CRADLES - 1);
                draft.bolts[cradle & RING] = things.number(0, MOST_BOLTS);
            } else if (things.takes("fare")) {
                draft.price = things.number(0, MOST_FARE);
            } else if (things.takes("chest")) {
                draft.chest = things.number(0, 999);
            } else if (things.takes("reach")) {
                draft.reach = things.number(1, MOST_REACH);
            } else if (things.takes("wind")) {
                draft.wind = things.number(0, 100);
            } else if (things.takes("top")) {
                draft.top = things.number(0, CRADLES - 1);
            } else {
                things.refuse();
            }
        }

        private void readRider() {
            things.must("weight");
            int weight = things.number(1, 9);
            things.must("purse");
            int purse = things.number(0, MOST_PURSE);
            things.must("party");
            int party = things.number(0, PARTIES - 1);
            int cradle = things.takes("in") ? readOpenCradle() : NONE;
            if (things.wrong == NONE) {
                draft.enlist(weight, purse, party, cradle);
            }
        }

        private int readOpenCradle() {
            int cradle = things.value();
            if (cradle < 0 || cradle >= CRADLES || !draft.isOpen(cradle)) {
                things.refuse();
                return NONE;
            }
            things.pass();
            return cradle;
        }
    }

    /** Reads the law into rows of its own, of which a law is then made. */
    private static final class LawReader extends Reader {
        private static final int MOST_LINES = 12;
        private static final int MOST_AMOUNT = 30;
        private static final int MOST_DEPTH = 6;

        final int[] act = new int[MOST_LINES];
        final int[] amount = new int[MOST_LINES];
        /** Where the nodes of a line end; they begin where those of the line ahead end. */
        final int[] until = new int[MOST_LINES];
        final int[] kind = new int[TAPE_BYTES];
        final int[] left = new int[TAPE_BYTES];
        final int[] right = new int[TAPE_BYTES];
        int lines = 0;
        int nodes = 0;

        LawReader(Things things) {
            super(things, MOST_LINES);
        }

        void clear() {
            lines = 0;
            nodes = 0;
        }

        void readLine() {
            int what = NONE;
            if (things.takes("go")) {
                what = GO;
            } else if (things.takes("more")) {
                what = MORE;
            } else if (things.takes("less")) {
                what = LESS;
            } else {
                things.refuse();
            }
            int much = things.number(0, MOST_AMOUNT);
            if (things.takes("if")) {
                readCondition(0);
            }
            if (lines < MOST_LINES) {
                act[lines] = what;
                amount[lines] = much;
                until[lines] = nodes;
                lines++;
            }
        }

        /** Atoms with and between them, and these with or between them: the node of the whole. */
        private int readCondition(int depth) {
            int any = NONE;
            for (int i = 0; i == 0 || i < TAPE_BYTES && things.takes("or"); i++) {
                int all = readAtom(depth);
                for (int k = 0; k < TAPE_BYTES && things.takes("and"); k++) {
                    all = node(Law.AND, all, readAtom(depth));
                }
                any = i == 0 ? all : node(Law.OR, any, all);
            }
            return any;
        }

        /** What would be too deep falls through to the sums, in which it cannot stand. */
        private int readAtom(int depth) {
            boolean deeper = depth < MOST_DEPTH;
            if (deeper && things.takes("not")) {
                return node(Law.NOT, readAtom(depth + 1), NONE);
            }
            if (deeper && things.takes("(")) {
                int inner = readCondition(depth + 1);
                things.must(")");
                return inner;
            }
            if (things.takes("rich")) {
                return node(Law.FACT, RICH, NONE);
            }
            if (things.takes("alone")) {
                return node(Law.FACT, ALONE, NONE);
            }
            int first = readSum();
            if (things.takes("<")) {
                return node(Law.BELOW, first, readSum());
            }
            things.must(">");
            return node(Law.ABOVE, first, readSum());
        }

        private int readSum() {
            int sum = readPart();
            for (int i = 0; i < TAPE_BYTES && things.takes("+"); i++) {
                sum = node(Law.SUM, sum, readPart());
            }
            return sum;
        }

        private int readPart() {
            int number = things.value();
            if (number != NONE) {
                things.pass();
                return node(Law.NUMBER, number, NONE);
            }
            int fact = things.takes("cradle") ? 0
                    : things.takes("weight") ? 1
                    : things.takes("party") ? 2
                    : things.takes("bolts") ? 3
                    : things.takes("stop") ? 4
                    : things.takes("height") ? 5
                    : things.takes("chest") ? 6
                    : NONE;
            if (fact == NONE) {
                things.refuse();
            }
            return node(Law.FACT, fact, NONE);
        }

        private int node(int what, int first, int second) {
            if (nodes >= TAPE_BYTES) {
                return NONE;
            }
            kind[nodes] = what;
            left[nodes] = first;
            right[nodes] = second;
            nodes++;
            return nodes - 1;
        }
    }

    /**
     * Lines, and the nodes of their conditions. A node stands behind those that it is made of, so one
     * walk over a line's nodes tells them all, the last of them being the whole condition.
     */
    private static final class Law {
        static final int NUMBER = 0;
        static final int FACT = 1;
        static final int SUM = 2;
        static final int BELOW = 3;
        static final int ABOVE = 4;
        static final int NOT = 5;
        static final int AND = 6;
        static final int OR = 7;

        final int lines;
        private final int[] act;
        private final int[] amount;
        private final int[] until;
        private final int[] kind;
        private final int[] left;
        private final int[] right;
        private final int[] results;

        /** Where there is no law: it tells nothing. */
        Law() {
            lines = NONE;
            act = new int[0];
            amount = act;
            until = act;
            kind = act;
            left = act;
            right = act;
            results = act;
        }

        Law(LawReader draft) {
            lines = draft.lines;
            act = Arrays.copyOf(draft.act, draft.lines);
            amount = Arrays.copyOf(draft.amount, draft.lines);
            until = Arrays.copyOf(draft.until, draft.lines);
            kind = Arrays.copyOf(draft.kind, draft.nodes);
            left = Arrays.copyOf(draft.left, draft.nodes);
            right = Arrays.copyOf(draft.right, draft.nodes);
            results = new int[draft.nodes];
        }

        /** The sum of all lines of a kind that hold; of nobody only those without a condition do. */
        int total(int what, int[] facts, boolean somebody) {
            int sum = 0;
            int from = 0;
            for (int i = 0; i < act.length; i++) {
                boolean bare = until[i] == from;
                if (act[i] == what && (bare || somebody && holds(from, until[i], facts))) {
                    sum += amount[i];
                }
                from = until[i];
            }
            return sum;
        }

        private boolean holds(int from, int to, int[] facts) {
            boolean whole = false;
            for (int i = from; i < to && i < results.length; i++) {
                results[i] = worth(i, facts);
                whole = results[i] != 0;
            }
            return whole;
        }

        private int worth(int i, int[] facts) {
            int one = left[i];
            if (kind[i] == NUMBER) {
                return one;
            }
            if (kind[i] == FACT) {
                return one >= 0 && one < facts.length ? facts[one] : 0;
            }
            int two = right[i];
            int a = one >= 0 && one < i ? results[one] : 0;
            int b = two >= 0 && two < i ? results[two] : 0;
            switch (kind[i]) {
                case SUM:
                    return a + b;
                case BELOW:
                    return a < b ? 1 : 0;
                case ABOVE:
                    return a > b ? 1 : 0;
                case NOT:
                    return 1 - a;
                case AND:
                    return a & b;
                default:
                    return a | b;
            }
        }
    }

    /** All that a stop changes, and the law by which it does. */
    private static final class Wheel {
        final int[] place = new int[RIDERS];
        final int[] weight = new int[RIDERS];
        final int[] purse = new int[RIDERS];
        final int[] side = new int[RIDERS];
        final int[] row = new int[RIDERS];
        final int[] bolts = {5, 5, 5, 5, 5, 5, 5, 5};
        final int[] terms = new int[PARTIES];
        private final int[] facts = new int[FACTS];
        int riders = 0;
        int waiting = 0;
        int price = 5;
        int chest = 0;
        int reach = 4;
        int wind = 0;
        int top = 0;
        int stop = 0;
        int grain = 1;
        /** The governor and what was paid at the latest stop: the wind may take that governor off. */
        int head = NONE;
        int paid = 0;
        Law rule = new Law();

        void copy(Wheel from) {
            System.arraycopy(from.place, 0, place, 0, RIDERS);
            System.arraycopy(from.weight, 0, weight, 0, RIDERS);
            System.arraycopy(from.purse, 0, purse, 0, RIDERS);
            System.arraycopy(from.side, 0, side, 0, RIDERS);
            System.arraycopy(from.row, 0, row, 0, RIDERS);
            System.arraycopy(from.bolts, 0, bolts, 0, CRADLES);
            System.arraycopy(from.terms, 0, terms, 0, PARTIES);
            riders = from.riders;
            waiting = from.waiting;
            price = from.price;
            chest = from.chest;
            reach = from.reach;
            wind = from.wind;
            top = from.top;
            stop = from.stop;
            grain = from.grain;
            head = from.head;
            paid = from.paid;
            rule = from.rule;
        }

        int places(int cradle) {
            return (cradle - top) & RING;
        }

        int height(int cradle) {
            return Math.abs(CRADLES / 2 - places(cradle));
        }

        int costOf(int cradle) {
            return STEP_COST * places(cradle);
        }

        /** How a weight in a cradle leans the wheel: 1 or -1 by its side, 0 on top and at the bottom. */
        int lever(int cradle) {
            int behind = places(cradle) & RING >> 1;
            if (behind == 0) {
                return 0;
            }
            return places(cradle) < CRADLES / 2 ? 1 : -1;
        }

        int ridersIn(int cradle) {
            int found = 0;
            for (int r = 0; r < riders; r++) {
                if (place[r] == cradle) {
                    found |= 1 << r;
                }
            }
            return found;
        }

        int firstIn(int cradle) {
            for (int r = 0; r < riders; r++) {
                if (place[r] == cradle) {
                    return r;
                }
            }
            return NONE;
        }

        boolean isOpen(int cradle) {
            return bolts[cradle & RING] > 0 && Integer.bitCount(ridersIn(cradle)) < SEATS;
        }

        boolean sitsLike(Wheel other) {
            boolean alike = top == other.top;
            for (int r = 0; r < riders; r++) {
                alike = alike && place[r] == other.place[r];
            }
            return alike;
        }

        int queuedAt(int rider) {
            for (int i = 0; i < waiting; i++) {
                if (row[i] == rider) {
                    return i;
                }
            }
            return NONE;
        }

        void enlist(int heavy, int money, int party, int cradle) {
            if (riders >= RIDERS) {
                return;
            }
            int rider = riders;
            riders++;
            weight[rider] = heavy;
            purse[rider] = money;
            side[rider] = party;
            place[rider] = cradle;
            if (cradle == NONE) {
                getOff(rider);
            }
        }

        void getOff(int rider) {
            place[rider & RING] = NONE;
            if (waiting < RIDERS) {
                row[waiting] = rider;
                waiting++;
            }
        }

        void getIn(int rider, int cradle) {
            int at = queuedAt(rider);
            if (at == NONE) {
                return;
            }
            for (int i = at; i + 1 < waiting; i++) {
                row[i] = row[i + 1];
            }
            waiting--;
            place[rider & RING] = cradle;
        }

        int goesFarther() {
            int ruler = firstIn(top);
            if (ruler != NONE) {
                tellFacts(ruler);
            }
            return rule.total(GO, facts, ruler != NONE);
        }

        int owesBy(int rider, int fare) {
            tellFacts(rider);
            int owed = fare + rule.total(MORE, facts, true) - rule.total(LESS, facts, true);
            return Math.max(0, owed);
        }

        /** What the law may ask of a seated rider, in the order in which it counts them. */
        private void tellFacts(int rider) {
            int r = rider & RING;
            int cradle = place[r] & RING;
            facts[0] = cradle;
            facts[1] = weight[r];
            facts[2] = side[r];
            facts[3] = bolts[cradle];
            facts[4] = stop;
            facts[5] = height(cradle);
            facts[6] = chest / 100;
            facts[RICH] = purse[r] >= 50 ? 1 : 0;
            facts[ALONE] = ridersIn(cradle) == 1 << r ? 1 : 0;
        }

        int draw() {
            grain = 1103515245 * grain + 12345;
            return grain >>> 16 & 32767;
        }

        /** A stop by a told draw; the wind is left out where what is ahead must not hang on draws. */
        void halt(int drawn, boolean windy) {
            int step = reach > 0 ? drawn % reach + 1 : 1;
            top = (top + goesFarther() + step) & RING;
            head = firstIn(top);
            if (head != NONE) {
                terms[side[head] & PARTY_RING]++;
            }
            int bottom = (top + CRADLES / 2) & RING;
            paid = collect(bottom);
            fill(bottom);
            if (windy) {
                blow();
            }
            stop = Math.min(MOST_STOP, stop + 1);
        }

        private int collect(int bottom) {
            int sum = 0;
            for (int r = 0; r < riders; r++) {
                if (place[r] == bottom) {
                    int given = Math.min(purse[r], owesBy(r, price));
                    purse[r] -= given;
                    chest = Math.min(MOST_CHEST, chest + given);
                    sum += given;
                    if (purse[r] == 0) {
                        getOff(r);
                    }
                }
            }
            return sum;
        }

        private void fill(int bottom) {
            for (int seat = 0; seat < SEATS; seat++) {
                int next = firstWithMoney();
                if (next != NONE && isOpen(bottom)) {
                    getIn(next, bottom);
                }
            }
        }

        private int firstWithMoney() {
            for (int i = 0; i < waiting; i++) {
                if (purse[row[i] & RING] > 0) {
                    return row[i];
                }
            }
            return NONE;
        }

        private void blow() {
            if (draw() % 100 >= wind) {
                return;
            }
            int hit = draw() & RING;
            bolts[hit] = Math.max(0, bolts[hit] - 1);
            for (int r = 0; r < riders; r++) {
                if (bolts[hit] == 0 && place[r] == hit) {
                    getOff(r);
                }
            }
        }
    }

    /** The latest stops, a row of four numbers each. */
    private static final class Journal {
        static final int COLUMNS = 4;
        static final int STOP = 0;
        static final int GOVERNOR = 2;
        private static final int MOST_ROWS = 60;

        private final int[] cells = new int[MOST_ROWS * COLUMNS];
        private int next = 0;
        int rows = 0;

        void copy(Journal from) {
            System.arraycopy(from.cells, 0, cells, 0, cells.length);
            next = from.next;
            rows = from.rows;
        }

        void add(int stop, int cradle, int governor, int paid) {
            int at = next * COLUMNS;
            if (at >= 0 && at + COLUMNS <= cells.length) {
                cells[at] = stop;
                cells[at + 1] = cradle;
                cells[at + GOVERNOR] = governor;
                cells[at + 3] = paid;
            }
            next = (next + 1) % MOST_ROWS;
            rows = Math.min(MOST_ROWS, rows + 1);
        }

        int told(int ago, int column) {
            if (ago < 0 || ago >= rows || column < 0 || column >= COLUMNS) {
                return NO_ROW;
            }
            return cells[Math.floorMod(next - 1 - ago, MOST_ROWS) * COLUMNS + column];
        }
    }

    /** All as it was once. */
    private static final class Keep {
        final Wheel wheel = new Wheel();
        final Journal journal = new Journal();
        int texts = 0;

        void hold(Wheel fromWheel, Journal fromJournal, int fromTexts) {
            wheel.copy(fromWheel);
            journal.copy(fromJournal);
            texts = fromTexts;
        }
    }

    /** How all was ahead of the latest acts. */
    private static final class Acts {
        private static final int MOST = 12;

        private final Keep[] ring = new Keep[MOST];
        private int next = 0;
        int kept = 0;

        Acts() {
            for (int i = 0; i < MOST; i++) {
                ring[i] = new Keep();
            }
        }

        void remember(Wheel wheel, Journal journal, int texts) {
            Keep free = ring[next];
            if (free != null) {
                free.hold(wheel, journal, texts);
            }
            next = (next + 1) % MOST;
            kept = Math.min(MOST, kept + 1);
        }

        /** What was remembered last; null if nothing is. */
        Keep latest() {
            return kept == 0 ? null : ring[Math.floorMod(next - 1, MOST)];
        }

        void drop() {
            next = Math.floorMod(next - 1, MOST);
            kept = Math.max(0, kept - 1);
        }

        void forget() {
            kept = 0;
        }
    }
}
