import java.util.Arrays;
import java.util.NoSuchElementException;

/** A race on a lake that somebody ashore starts by a yawn that is not seen to be meant. */
public final class StartedByAYawn {
    public static final int NONE = -1;

    private static final int MOST_FACES = 9;
    private static final int MOST_TIRED = 9;
    private static final int EVERYBODY = 511;
    private static final int SETS = 512;
    private static final int LOOK_ON = 300;
    private static final int NO_ANSWER = -2;
    private static final int MISSING = -3;
    private static final int GONE = -3;

    private static final int MOST_SIGNS = 80;
    private static final int WALL_SIGNS = 76;
    private static final int WIND_SIGNS = 40;
    private static final int RULE_SIGNS = 40;
    private static final int HOUR_SIGNS = 60;

    private static final int MOST_NUMBERS = 16;
    private static final int MOST_RACES = 20;
    private static final int MOST_TURNS = 20;
    private static final int BOOK_YAWNS = 60;
    private static final int MOST_UNDONE = 12;

    private final Text text = new Text();
    private final Rule rule = new Rule();
    private final RuleReader ruleReader = new RuleReader(text);
    private final Acts acts = new Acts(text);
    private final Wall wall = new Wall(rule);
    /** Questions about MINUTES to come are played here, so that the wall itself stays as it is. */
    private final Wall trial = new Wall(rule);
    private final Book yawns = new Book();
    private final Past past = new Past();
    private final Kept[] kept = new Kept[2];
    private final Crews crews = new Crews();
    private final Sightings sightings = new Sightings();
    private final int[] told = new int[MOST_NUMBERS];
    private int toldSize;
    private int judging;
    private int starter;
    private int falseAhead;
    /** One row of numbers by FACES for the call at hand, made once for all calls. */
    private final int[] tally = new int[MOST_FACES + 1];

    public StartedByAYawn() {
        for (int i = 0; i < kept.length; i++) {
            kept[i] = new Kept();
        }
    }

    // ---- the wall

    public int sign(int v) {
        return text.put(v) ? text.size : NONE;
    }

    public boolean end(int n) {
        if (n < 0 || n > text.size) {
            return false;
        }
        text.size = n;
        return true;
    }

    public int wall() {
        text.open(WALL_SIGNS);
        int lines = readLines();
        if (!text.close(lines != NONE)) {
            return text.fault();
        }
        if (lines > 0) {
            wall.faces += lines;
            past.size = 0;
        }
        return lines;
    }

    public int wind() {
        text.open(WIND_SIGNS);
        int digits = 0;
        while (digits < WIND_SIGNS && text.digit(0) != NONE) {
            digits++;
        }
        if (!text.close(true)) {
            return text.fault();
        }
        rule.takeWind(text.signs, digits);
        return digits;
    }

    public int rule() {
        text.open(RULE_SIGNS);
        boolean plain = text.isOver();
        if (!text.close(plain || ruleReader.readAll())) {
            return text.fault();
        }
        if (plain) {
            rule.reset();
        } else {
            rule.take(ruleReader);
        }
        return 0;
    }

    public int face(int face, int what) throws NoSuchElementException {
        if (!isFace(face) || what < 0 || what > 7) {
            throw new NoSuchElementException("no such FACE, or nothing such is told of it");
        }
        Moment moment = wall.moment;
        boolean waits = moment.due[face] != NONE;
        switch (what) {
            case 0:
                return moment.tired[face];
            case 1:
                return wall.delay[face];
            case 2:
                return wall.sight(face);
            case 3:
                return moment.yawned[face];
            case 4:
                return waits ? moment.due[face] - moment.now : NONE;
            case 5:
                return waits ? moment.cause[face] : NONE;
            case 6:
                return waits && has(moment.meaning, face) ? 1 : 0;
            default:
                return has(moment.away, face) ? 1 : 0;
        }
    }

    public int set(int face, int what, int v) {
        if (!isFace(face)) {
            return NONE;
        }
        if (what == 0 && isIn(v, 0, MOST_TIRED)) {
            return exchange(wall.moment.tired, face, v);
        }
        if (what == 1 && isIn(v, 1, 9)) {
            return exchange(wall.delay, face, v);
        }
        if (what == 2 && isIn(v, 0, EVERYBODY)) {
            return exchange(wall.sees, face, v);
        }
        return NONE;
    }

    public int sheet(int kind, int n, int f, int step) {
        if (!isIn(kind, 0, 3) || n > MOST_FACES) {
            return NONE;
        }
        boolean missing = kind == 3;
        if (!missing && n < 0) {
            return NO_ANSWER;
        }
        int entry = f;
        for (int i = 0; i < wall.faces; i++) {
            wall.moment.tired[i] = missing || i >= n ? 0 : asTired(kind, entry);
            entry += step;
        }
        return missing ? MISSING : sumOfTired();
    }

    public int judges(int those) {
        if (those < 0 || (those & ~wall.everybody()) != 0) {
            return NONE;
        }
        judging = those;
        return Integer.bitCount(wall.sightOf(judging));
    }

    // ---- minutes

    public boolean yawn(int face, int meant) {
        if (!isIn(meant, 0, 1) || !canYawn(face)) {
            return false;
        }
        remember();
        wall.moment.plan(face, wall.moment.now, NONE, meant);
        return true;
    }

    public int away(int face) {
        if (!isFace(face)) {
            return NONE;
        }
        remember();
        wall.moment.turnAway(face);
        return Integer.bitCount(wall.moment.away);
    }

    public int catchers(int face, int meant) {
        if (!isFace(face) || !isIn(meant, 0, 1)) {
            return NONE;
        }
        if (has(wall.moment.away, face)) {
            return NO_ANSWER;
        }
        trial.take(wall);
        trial.yawners = bit(face);
        trial.meant = meant == 1 ? bit(face) : 0;
        trial.catchAll();
        tell(wall.seersOf(bit(face)));
        return trial.caught;
    }

    public int minute() {
        remember();
        goBy();
        tell(wall.caught, falseIn(wall));
        return wall.yawners;
    }

    public int minutes(int n) {
        if (!isIn(n, 0, LOOK_ON)) {
            return NONE;
        }
        if (n > 0) {
            remember();
        }
        int all = 0;
        int falseOnes = 0;
        int start = NONE;
        for (int m = 0; m < n; m++) {
            int now = goBy();
            int falseNow = Integer.bitCount(falseIn(wall));
            all += now;
            falseOnes += falseNow;
            if (start == NONE && now > falseNow) {
                start = m;
            }
        }
        tell(falseOnes, start);
        return all;
    }

    public int hour() {
        text.open(HOUR_SIGNS);
        if (!text.close(acts.readAll())) {
            return text.fault();
        }
        past.draft(wall, yawns);
        int done = 0;
        int all = 0;
        for (int i = 0; i < acts.size; i++) {
            int came = act(acts.kind[i], acts.face[i], acts.much[i]);
            if (came == NONE) {
                break;
            }
            done++;
            all += came;
        }
        if (done > 0) {
            past.confirm();
        }
        tell(done < acts.size ? 1 : 0, all);
        return done;
    }

    public int undo() {
        return past.bringBack(wall, yawns) ? past.size : NONE;
    }

    public int book(int i, int what) throws NoSuchElementException {
        if (!yawns.holds(i) || what < 0 || what > 4) {
            throw new NoSuchElementException("THE BOOK has no such yawn, or tells nothing such of it");
        }
        int at = yawns.place(i);
        switch (what) {
            case 0:
                return yawns.minute[at];
            case 1:
                return yawns.face[at];
            case 2:
                return yawns.cause[at];
            case 3:
                return yawns.meant[at];
            default:
                return yawns.meant[at] == 1 && has(wall.sightOf(judging), yawns.face[at]) ? 1 : 0;
        }
    }

    public int back(int i) {
        if (!yawns.holds(i)) {
            return NONE;
        }
        int faces = 0;
        int here = i;
        int cause = yawns.causeOf(here);
        for (int k = 0; k < BOOK_YAWNS && cause != NONE; k++) {
            faces++;
            int earlier = yawns.latestBefore(here, cause);
            if (earlier == NONE) {
                tell(cause, 0);
                return faces;
            }
            here = earlier;
            cause = yawns.causeOf(here);
        }
        tell(yawns.faceOf(here), 1);
        return faces;
    }

    // ---- minutes to come

    public int start() {
        trial.take(wall);
        int after = startWithin(LOOK_ON);
        if (after == NONE) {
            return NO_ANSWER;
        }
        tell(starter, falseAhead);
        return after;
    }

    public int ahead(int n) {
        if (!isIn(n, 0, LOOK_ON)) {
            return NONE;
        }
        trial.take(wall);
        playOn(n);
        int all = 0;
        toldSize = wall.faces;
        for (int f = 0; f < wall.faces; f++) {
            told[f] = tally[f];
            all += tally[f];
        }
        return all;
    }

    public int watch(int n) {
        if (!isIn(n, 0, LOOK_ON)) {
            return NONE;
        }
        trial.take(wall);
        int quiet = playOn(n);
        int most = mostInTally();
        if (most == NONE) {
            return NO_ANSWER;
        }
        tell(tally[most], quiet);
        return most;
    }

    public int when(int face) {
        if (!isFace(face)) {
            return NONE;
        }
        trial.take(wall);
        int after = firstYawn(face, LOOK_ON);
        if (after == NONE) {
            return NO_ANSWER;
        }
        tell(trial.led[face]);
        return after;
    }

    public int spreads(int face, int n) {
        if (!isFace(face) || !isIn(n, 1, LOOK_ON)) {
            return NONE;
        }
        if (!canYawn(face)) {
            return NO_ANSWER;
        }
        trial.take(wall);
        playOn(n);
        int all = sumOfTally();
        int those = thoseInTally();
        trial.take(wall);
        trial.moment.plan(face, trial.moment.now, NONE, 0);
        playOn(n);
        tell(sumOfTally() - all);
        return thoseInTally() & ~those;
    }

    public int dies(int face) {
        if (!isFace(face)) {
            return NONE;
        }
        return has(wall.moment.away, face) ? GONE : diesWithout(face, 0);
    }

    public int everlasting() {
        int those = 0;
        for (int f = 0; f < wall.faces; f++) {
            if (!has(wall.moment.away, f) && diesWithout(f, 0) == NO_ANSWER) {
                those |= bit(f);
            }
        }
        return those;
    }

    public int cuts(int face) {
        if (!isFace(face)) {
            return NONE;
        }
        if (has(wall.moment.away, face)) {
            return GONE;
        }
        int others = wall.present() & ~bit(face);
        int set = 0;
        for (int k = 0; k < SETS && set != NONE; k++) {
            int after = diesWithout(face, set);
            if (after >= 0) {
                tell(set, after);
                return Integer.bitCount(set);
            }
            set = nextSet(set, others);
        }
        return NO_ANSWER;
    }

    public int reach(int face) {
        if (!isFace(face)) {
            return NONE;
        }
        int got = bit(face);
        int last = got & wall.present();
        int steps = 0;
        for (int k = 0; k < MOST_FACES && last != 0; k++) {
            last = wall.seersOf(last) & ~got;
            got |= last;
            steps += last != 0 ? 1 : 0;
        }
        tell(steps);
        return got & ~bit(face);
    }

    public int path(int from, int to) {
        if (!isPresent(from) || !isPresent(to)) {
            return NONE;
        }
        measureTo(to);
        int minutes = tally[from];
        if (minutes == NONE) {
            return NO_ANSWER;
        }
        toldSize = 0;
        int here = from;
        for (int k = 0; k < MOST_FACES && here != to && here != NONE; k++) {
            here = nextOnPath(here);
            told[toldSize] = here;
            toldSize++;
        }
        return minutes;
    }

    // ---- judges and men

    public int enough() {
        int all = wall.everybody();
        int set = 0;
        for (int k = 0; k < SETS && set != NONE; k++) {
            if (wall.sightOf(set) == all) {
                tell(set);
                return Integer.bitCount(set);
            }
            set = nextSet(set, all);
        }
        return NO_ANSWER;
    }

    public int dull(int v, int m) {
        if (!isIn(v, 1, 9) || !isIn(m, 0, LOOK_ON - 1)) {
            return NONE;
        }
        if (wall.faces == 0) {
            return NO_ANSWER;
        }
        int nearest = 0;
        int nearestStart = NONE;
        for (int f = 0; f < wall.faces; f++) {
            int start = startIfTired(f, v);
            if (start != NONE && (nearestStart == NONE || Math.abs(start - m) < Math.abs(nearestStart - m))) {
                nearest = f;
                nearestStart = start;
            }
        }
        tell(nearestStart);
        return nearest;
    }

    public int bluff() {
        int soonest = NONE;
        int soonestStart = NONE;
        for (int f = 0; f < wall.faces; f++) {
            if (canYawn(f)) {
                trial.take(wall);
                trial.moment.plan(f, trial.moment.now, NONE, 1);
                int start = startWithin(LOOK_ON);
                if (soonest == NONE || orLatest(start) < orLatest(soonestStart)) {
                    soonest = f;
                    soonestStart = start;
                }
            }
        }
        if (soonest == NONE) {
            return NO_ANSWER;
        }
        tell(soonestStart, startIfTired(NONE, 0));
        return soonest;
    }

    public int calm(int face, int n) {
        if (!isFace(face) || !isIn(n, 1, LOOK_ON)) {
            return NONE;
        }
        for (int less = 0; less <= MOST_TIRED; less++) {
            trial.take(wall);
            trial.moment.tire(face, -less);
            if (firstYawn(face, n) == NONE) {
                return less;
            }
        }
        return NO_ANSWER;
    }

    public int hush(int m) {
        if (!isIn(m, 1, LOOK_ON)) {
            return NONE;
        }
        int set = 0;
        for (int k = 0; k < SETS && set != NONE; k++) {
            trial.take(wall);
            trial.moment.send(set);
            if (startWithin(m) == NONE) {
                tell(set);
                return Integer.bitCount(set);
            }
            set = nextSet(set, wall.present());
        }
        return NONE;
    }

    public int gaze(int face, int n) {
        if (!isFace(face) || !isIn(n, 1, LOOK_ON)) {
            return NO_ANSWER;
        }
        int best = NONE;
        int most = causedIfSeen(face, NONE, n);
        for (int f = 0; f < wall.faces; f++) {
            int caused = f == face ? 0 : causedIfSeen(face, f, n);
            if (caused > most) {
                best = f;
                most = caused;
            }
        }
        tell(most);
        return best;
    }

    public int rests(int m) {
        if (!isIn(m, 0, MOST_TURNS)) {
            return NONE;
        }
        int soon = NONE;
        int late = NONE;
        int turns = 0;
        int still = 0;
        while (turns < m && still < 2) {
            int party = turns % 2;
            int choice = choiceOf(party, soon, late);
            still = choice == (party == 0 ? soon : late) ? still + 1 : 0;
            soon = party == 0 ? choice : soon;
            late = party == 1 ? choice : late;
            turns++;
        }
        setBoth(soon, late);
        tell(still == 2 ? 1 : 0, soon, late, startWithin(LOOK_ON));
        return turns;
    }

    // ---- crews

    public int crew(int ready, int hold, int late) {
        if (!isIn(ready, 0, 600) || !isIn(hold, 0, 9) || !isIn(late, 0, 99)) {
            return NONE;
        }
        int number = crews.size;
        return crews.add(ready, hold, late) ? number : NO_ANSWER;
    }

    public int home() {
        int all = crews.size;
        crews.size = 0;
        return all;
    }

    public int cost(int crew) {
        if (!isIn(crew, 0, crews.size - 1)) {
            return NONE;
        }
        int start = startIfTired(NONE, 0);
        if (start == NONE) {
            return NO_ANSWER;
        }
        int ready = crews.ready[crew];
        tell(ready <= start ? 1 : 0);
        return crews.price(crew, ready, start);
    }

    public int best(int crew) {
        if (!isIn(crew, 0, crews.size - 1)) {
            return NONE;
        }
        int ways = 0;
        for (int f = NONE; f < wall.faces; f++) {
            int start = startIfTired(f, 3);
            if (start != NONE) {
                tally[ways] = start;
                ways++;
            }
        }
        if (ways == 0) {
            return NO_ANSWER;
        }
        int best = 0;
        int least = priceOfAll(crew, 0, ways);
        for (int ready = 1; ready < LOOK_ON; ready++) {
            int price = priceOfAll(crew, ready, ways);
            if (price < least) {
                best = ready;
                least = price;
            }
        }
        tell(least, ways);
        return best;
    }

    // ---- yawns that were seen

    public int seen(int face, int n) {
        if (!isFace(face) || !isIn(n, 0, 60) || !sightings.add(face, n)) {
            return NONE;
        }
        return sightings.size;
    }

    public int forget() {
        int all = sightings.size;
        sightings.size = 0;
        return all;
    }

    public int began() {
        int those = 0;
        for (int f = 0; f < wall.faces; f++) {
            if (canYawn(f) && comesIfYawn(bit(f))) {
                those |= bit(f);
            }
        }
        tell(comesIfYawn(0) ? 1 : 0);
        return those;
    }

    public int delays(int face) {
        if (!isFace(face)) {
            return NONE;
        }
        int those = 0;
        for (int d = 1; d <= 9; d++) {
            trial.take(wall);
            trial.delay[face] = d;
            if (sightings.comeOn(trial)) {
                those |= bit(d);
            }
        }
        return those;
    }

    public int fewest() {
        int able = wall.present() & ~wall.moment.waiting();
        int set = 0;
        for (int k = 0; k < SETS && set != NONE; k++) {
            if (comesIfYawn(set)) {
                tell(set);
                return Integer.bitCount(set);
            }
            set = nextSet(set, able);
        }
        return NO_ANSWER;
    }

    // ---- a season

    public int season(int seed, int n) {
        if (!isIn(n, 1, MOST_RACES)) {
            return NONE;
        }
        Arrays.fill(tally, 0);
        int r = seed;
        int races = 0;
        int soonest = NONE;
        int latest = NONE;
        for (int k = 0; k < n; k++) {
            trial.take(wall);
            for (int f = 0; f < wall.faces; f++) {
                r = r * 1103515245 + 12345;
                trial.moment.tired[f] = (r >>> 16) % 10;
            }
            int start = startWithin(LOOK_ON);
            if (start != NONE && isFace(starter)) {
                races++;
                tally[starter]++;
                soonest = soonest == NONE ? start : Math.min(soonest, start);
                latest = Math.max(latest, start);
            }
        }
        int most = mostInTally();
        tell(soonest, latest, most, most == NONE ? 0 : tally[most]);
        return races;
    }

    // ---- kept

    public boolean keep(int i) {
        if (!isIn(i, 0, kept.length - 1) || kept[i] == null) {
            return false;
        }
        kept[i].take(wall, yawns);
        return true;
    }

    public boolean again(int i) {
        if (!isIn(i, 0, kept.length - 1) || kept[i] == null) {
            return false;
        }
        if (!kept[i].filled || kept[i].faces != wall.faces) {
            return false;
        }
        kept[i].give(wall, yawns);
        past.size = 0;
        return true;
    }

    public int count(int what) {
        switch (what) {
            case 0:
                return wall.faces;
            case 1:
                return wall.moment.now;
            case 2:
                return judging;
            case 3:
                return wall.moment.away;
            case 4:
                return wall.moment.waiting();
            case 5:
                return yawns.size;
            case 6:
                return sumOfTired();
            case 7:
                return crews.size;
            case 8:
                return past.size;
            case 9:
                return sightings.size;
            case 10:
                return toldSize;
            case 11:
                return text.size;
            default:
                return NONE;
        }
    }

    public int row(int i) throws NoSuchElementException {
        if (i < 0 || i >= toldSize || i >= told.length) {
            throw new NoSuchElementException("the ROW has no such number");
        }
        return told[i];
    }

    // ---- helpers of the calls

    private static int bit(int i) {
        return 1 << i;
    }

    private static boolean has(int bits, int i) {
        return (bits >> i & 1) != 0;
    }

    private static boolean isIn(int v, int least, int most) {
        return v >= least && v <= most;
    }

    private boolean isFace(int face) {
        return face >= 0 && face < wall.faces;
    }

    private boolean isPresent(int face) {
        return isFace(face) && has(wall.present(), face);
    }

    private boolean canYawn(int face) {
        return isPresent(face) && wall.moment.due[face] == NONE;
    }

    private void remember() {
        past.draft(wall, yawns);
        past.confirm();
    }

    private void tell(int a) {
        told[0] = a;
        toldSize = 1;
    }

    private void tell(int a, int b) {
        told[0] = a;
        told[1] = b;
        toldSize = 2;
    }

    private void tell(int a, int b, int c, int d) {
        told[0] = a;
        told[1] = b;
        told[2] = c;
        told[3] = d;
        toldSize = 4;
    }

    /** How many LINES, or NONE with the cursor at the sign that can't stand there. */
    private int readLines() {
        if (text.isOver()) {
            return 0;
        }
        for (int lines = 0; lines < MOST_FACES; lines++) {
            if (!readLine(wall.faces + lines)) {
                return NONE;
            }
            if (text.isOver()) {
                return lines + 1;
            }
            if (!text.pick(';')) {
                return NONE;
            }
        }
        return NONE;
    }

    /** Writes behind the FACES that are there: what stands there counts only when they are more. */
    private boolean readLine(int face) {
        if (face < 0 || face >= MOST_FACES) {
            return false;
        }
        int tired = text.digit(0);
        if (tired == NONE || !text.pick('/')) {
            return false;
        }
        int delay = text.digit(1);
        if (delay == NONE) {
            return false;
        }
        int sees = 0;
        if (text.pick('>')) {
            sees = readLetters();
            if (sees == 0) {
                return false;
            }
        }
        wall.moment.tired[face] = tired;
        wall.delay[face] = delay;
        wall.sees[face] = sees;
        return true;
    }

    private int readLetters() {
        int bits = 0;
        int letter = text.letter(0);
        for (int k = 0; k < MOST_FACES && letter != NONE; k++) {
            bits |= bit(letter);
            letter = text.letter(letter + 1);
        }
        return bits;
    }

    private static int exchange(int[] numbers, int i, int v) {
        if (i < 0 || i >= numbers.length) {
            return NONE;
        }
        int old = numbers[i];
        numbers[i] = v;
        return old;
    }

    private static int asTired(int kind, int entry) {
        int v = entry;
        if (kind == 0) {
            v = (byte) entry;
        } else if (kind == 1) {
            v = (short) entry;
        }
        return Math.max(0, Math.min(MOST_TIRED, v));
    }

    private int sumOfTired() {
        int sum = 0;
        for (int f = 0; f < wall.faces; f++) {
            sum += wall.moment.tired[f];
        }
        return sum;
    }

    private int falseIn(Wall there) {
        return there.meant & there.sightOf(judging);
    }

    /** A MINUTE goes by for the wall itself; how many yawned. */
    private int goBy() {
        int now = wall.moment.now;
        wall.pass(false);
        for (int f = 0; f < wall.faces; f++) {
            if (has(wall.yawners, f)) {
                yawns.write(now, f, wall.led[f], has(wall.meant, f) ? 1 : 0);
            }
        }
        return Integer.bitCount(wall.yawners);
    }

    /** One ACT of AN HOUR: how many yawned in it, or NONE if it can't be done. */
    private int act(int kind, int face, int much) {
        if (kind == 'm') {
            int all = 0;
            for (int m = 0; m < much; m++) {
                all += goBy();
            }
            return all;
        }
        if (!isFace(face)) {
            return NONE;
        }
        if (kind == 'a') {
            wall.moment.turnAway(face);
        } else if (kind == 't') {
            wall.moment.tired[face] = much;
        } else if (canYawn(face)) {
            wall.moment.plan(face, wall.moment.now, NONE, kind == 'f' ? 1 : 0);
        } else {
            return NONE;
        }
        return 0;
    }

    /** Plays the trial on to THE START: its MINUTE, or NONE; who and how many FALSE ones stay in the fields. */
    private int startWithin(int n) {
        starter = NONE;
        falseAhead = 0;
        int judged = trial.sightOf(judging);
        for (int m = 0; m < n; m++) {
            trial.pass(false);
            int falseNow = trial.meant & judged;
            int trueNow = trial.yawners & ~falseNow;
            if (trueNow != 0) {
                starter = leastOf(trueNow);
                falseAhead += Integer.bitCount(falseNow & (bit(starter) - 1));
                return m;
            }
            falseAhead += Integer.bitCount(falseNow);
        }
        return NONE;
    }

    private static int leastOf(int bits) {
        return Integer.bitCount((bits & -bits) - 1);
    }

    private static int orLatest(int start) {
        return start == NONE ? LOOK_ON : start;
    }

    private int startIfTired(int face, int more) {
        trial.take(wall);
        trial.moment.tire(face, more);
        return startWithin(LOOK_ON);
    }

    /** Plays the trial on: the tally has the yawns by FACES, the answer is in how many MINUTES nobody yawned. */
    private int playOn(int n) {
        Arrays.fill(tally, 0);
        int quiet = 0;
        for (int m = 0; m < n; m++) {
            trial.pass(false);
            quiet += trial.yawners == 0 ? 1 : 0;
            for (int f = 0; f < wall.faces; f++) {
                tally[f] += trial.yawners >> f & 1;
            }
        }
        return quiet;
    }

    /** The first FACE with the most in the tally; NONE if all have 0. */
    private int mostInTally() {
        int most = NONE;
        for (int f = 0; f < wall.faces; f++) {
            if (tally[f] > (most == NONE ? 0 : tally[most])) {
                most = f;
            }
        }
        return most;
    }

    private int sumOfTally() {
        int sum = 0;
        for (int f = 0; f < wall.faces; f++) {
            sum += tally[f];
        }
        return sum;
    }

    private int thoseInTally() {
        int those = 0;
        for (int f = 0; f < wall.faces; f++) {
            those |= tally[f] > 0 ? bit(f) : 0;
        }
        return those;
    }

    private int firstYawn(int face, int n) {
        for (int m = 0; m < n; m++) {
            trial.pass(false);
            if (has(trial.yawners, face)) {
                return m;
            }
        }
        return NONE;
    }

    /** dies() of a FACE that is not AWAY, with others sent away besides. */
    private int diesWithout(int face, int others) {
        trial.take(wall);
        trial.moment.send(wall.everybody() & ~wall.moment.away & others);
        trial.moment.dropAll();
        trial.moment.plan(face, trial.moment.now, NONE, 0);
        for (int after = 1; after <= LOOK_ON; after++) {
            trial.pass(true);
            if (trial.moment.waiting() == 0) {
                return after;
            }
        }
        return NO_ANSWER;
    }

    /** The set within others that comes next, fewer ones first, of as few the least; NONE behind the last. */
    private static int nextSet(int set, int within) {
        int size = Integer.bitCount(set);
        for (int next = set + 1; next <= within; next++) {
            if ((next & ~within) == 0 && Integer.bitCount(next) == size) {
                return next;
            }
        }
        for (int next = 0; next <= within; next++) {
            if ((next & ~within) == 0 && Integer.bitCount(next) == size + 1) {
                return next;
            }
        }
        return NONE;
    }

    /** Into the tally: the fewest MINUTES from each FACE to one; NONE: it does not come there. */
    private void measureTo(int to) {
        Arrays.fill(tally, NONE);
        tally[to] = 0;
        for (int round = 0; round < wall.faces; round++) {
            for (int f = 0; f < wall.faces; f++) {
                for (int g = 0; g < wall.faces; g++) {
                    if (tally[f] != NONE && isStep(g, f)) {
                        int all = wall.delay[f] + tally[f];
                        tally[g] = tally[g] == NONE ? all : Math.min(tally[g], all);
                    }
                }
            }
        }
    }

    private boolean isStep(int from, int to) {
        return isPresent(from) && isPresent(to) && has(wall.sight(to), from);
    }

    /** The least FACE by which it goes on, as the tally has it. */
    private int nextOnPath(int here) {
        for (int f = 0; f < wall.faces; f++) {
            if (tally[f] != NONE && isStep(here, f) && wall.delay[f] + tally[f] == tally[here]) {
                return f;
            }
        }
        return NONE;
    }

    private int causedIfSeen(int face, int by, int n) {
        trial.take(wall);
        if (isFace(by)) {
            trial.sees[by] |= bit(face);
        }
        int caused = 0;
        for (int m = 0; m < n; m++) {
            trial.pass(false);
            for (int f = 0; f < wall.faces; f++) {
                caused += has(trial.yawners, f) && trial.led[f] == face ? 1 : 0;
            }
        }
        return caused;
    }

    private void setBoth(int soon, int late) {
        trial.take(wall);
        trial.moment.tire(soon, 4);
        trial.moment.tire(late, -4);
    }

    /** What a party takes, the other one's as it is: its own if nothing is better, then nobody, then the first. */
    private int choiceOf(int party, int soon, int late) {
        int own = party == 0 ? soon : late;
        int best = own;
        setBoth(soon, late);
        int bestStart = orLatest(startWithin(LOOK_ON));
        for (int f = NONE; f < wall.faces; f++) {
            setBoth(party == 0 ? f : soon, party == 0 ? late : f);
            int start = orLatest(startWithin(LOOK_ON));
            if (party == 0 ? start < bestStart : start > bestStart) {
                best = f;
                bestStart = start;
            }
        }
        return best;
    }

    private int priceOfAll(int crew, int ready, int ways) {
        int all = 0;
        for (int i = 0; i < ways && i < tally.length; i++) {
            all += crews.price(crew, ready, tally[i]);
        }
        return all;
    }

    private boolean comesIfYawn(int those) {
        trial.take(wall);
        for (int f = 0; f < wall.faces; f++) {
            if (has(those, f)) {
                trial.moment.plan(f, trial.moment.now, NONE, 0);
            }
        }
        return sightings.comeOn(trial);
    }

    // ---- the classes inside

    /** THE TEXT, and a cursor for the call that reads it. */
    private static final class Text {
        final int[] signs = new int[MOST_SIGNS];
        int size;
        private int at;
        private int limit;
        private boolean more;

        boolean put(int v) {
            if (size < 0 || size > MOST_SIGNS - 4) {
                return false;
            }
            for (int i = 0; i < 4; i++) {
                signs[size + i] = v >>> 24 - 8 * i & 255;
            }
            size += 4;
            return true;
        }

        void open(int most) {
            at = 0;
            limit = Math.min(size, most);
            more = size > most;
        }

        boolean isOver() {
            return at >= limit;
        }

        /** Empties THE TEXT: whether it was good to its end; signs beyond the most that may be spoil it too. */
        boolean close(boolean good) {
            size = 0;
            return good && at >= limit && !more;
        }

        /** What a call answers that could not read on. */
        int fault() {
            return -1 - at;
        }

        int peek() {
            return at >= 0 && at < limit && at < signs.length ? signs[at] : NONE;
        }

        void step() {
            at++;
        }

        boolean pick(int sign) {
            if (peek() != sign) {
                return false;
            }
            at++;
            return true;
        }

        int digit(int least) {
            return valueFrom('0', least, 9);
        }

        int letter(int least) {
            return valueFrom('a', least, MOST_FACES - 1);
        }

        private int valueFrom(int zero, int least, int most) {
            int v = peek() - zero;
            if (v < least || v > most) {
                return NONE;
            }
            at++;
            return v;
        }
    }

    /** THE RULE behind its things: numbers as they are, what a FACE tells from VALUES on, signs below 0. */
    private static final class Rule {
        static final int VALUES = 1000;
        static final int T = 0;
        static final int Y = 1;
        static final int K = 2;
        static final int N = 3;
        static final int W = 4;
        static final int M = 5;
        static final int I = 6;
        static final int J = 7;
        static final int X = 8;

        final int[] values = new int[9];
        private final int[] code = new int[RULE_SIGNS];
        private int size;
        private final int[] pile = new int[RULE_SIGNS];
        private final int[] wind = new int[WIND_SIGNS];
        private int windSize;

        Rule() {
            reset();
        }

        void reset() {
            code[0] = VALUES + T;
            code[1] = 3;
            code[2] = -'>';
            size = 3;
        }

        void take(RuleReader reader) {
            System.arraycopy(reader.code, 0, code, 0, RULE_SIGNS);
            size = reader.size;
        }

        void takeWind(int[] digits, int many) {
            windSize = Math.min(many, Math.min(WIND_SIGNS, digits.length));
            for (int i = 0; i < windSize; i++) {
                wind[i] = digits[i] - '0';
            }
        }

        int windAt(int minute) {
            return windSize <= 0 || minute < 0 ? 0 : wind[minute % windSize];
        }

        boolean holds() {
            int top = 0;
            for (int c = 0; c < size; c++) {
                int part = code[c];
                if (part == RuleReader.MINUS) {
                    if (top > 0) {
                        pile[top - 1] = -pile[top - 1];
                    }
                } else if (part < 0) {
                    if (top > 1) {
                        top--;
                        pile[top - 1] = joined(-part, pile[top - 1], pile[top]);
                    }
                } else if (top < RULE_SIGNS) {
                    int value = part - VALUES;
                    pile[top] = value >= 0 && value < values.length ? values[value] : part;
                    top++;
                }
            }
            return pile[0] != 0;
        }

        private static int joined(int sign, int a, int b) {
            switch (sign) {
                case '<':
                    return a < b ? 1 : 0;
                case '>':
                    return a > b ? 1 : 0;
                case '=':
                    return a == b ? 1 : 0;
                case '+':
                    return a + b;
                case '-':
                    return a - b;
                case '*':
                    return a * b;
                default:
                    return b == 0 ? 0 : a / b;
            }
        }
    }

    /** Reads THE RULE; each part false with the cursor at the sign that can't stand there. */
    private static final class RuleReader {
        static final int MINUS = -'~';
        static final int MOST_DEEP = 4;

        final int[] code = new int[RULE_SIGNS];
        int size;
        private final Text text;

        RuleReader(Text text) {
            this.text = text;
        }

        boolean readAll() {
            size = 0;
            return expression(0);
        }

        private void put(int part) {
            if (size < RULE_SIGNS) {
                code[size] = part;
                size++;
            }
        }

        private boolean expression(int depth) {
            if (!sum(depth)) {
                return false;
            }
            int sign = text.peek();
            if (sign != '<' && sign != '>' && sign != '=') {
                return true;
            }
            text.step();
            if (!sum(depth)) {
                return false;
            }
            put(-sign);
            return true;
        }

        private boolean sum(int depth) {
            boolean good = product(depth);
            int sign = text.peek();
            for (int k = 0; k < RULE_SIGNS && good && (sign == '+' || sign == '-'); k++) {
                text.step();
                good = product(depth);
                put(-sign);
                sign = text.peek();
            }
            return good;
        }

        private boolean product(int depth) {
            boolean good = signed(depth);
            int sign = text.peek();
            for (int k = 0; k < RULE_SIGNS && good && (sign == '*' || sign == '/'); k++) {
                text.step();
                good = signed(depth);
                put(-sign);
                sign = text.peek();
            }
            return good;
        }

        private boolean signed(int depth) {
            int signs = 0;
            while (signs < RULE_SIGNS && text.pick('-')) {
                signs++;
            }
            if (!thing(depth)) {
                return false;
            }
            if (signs % 2 == 1) {
                put(MINUS);
            }
            return true;
        }

        private boolean thing(int depth) {
            if (text.peek() == '(') {
                if (depth >= MOST_DEEP) {
                    return false;
                }
                text.step();
                return expression(depth + 1) && text.pick(')');
            }
            int digit = text.digit(0);
            if (digit != NONE) {
                put(restOfNumber(digit));
                return true;
            }
            int value = valueOf(text.peek());
            if (value == NONE) {
                return false;
            }
            text.step();
            put(Rule.VALUES + value);
            return true;
        }

        private int restOfNumber(int first) {
            int number = first;
            for (int k = 1; k < 3; k++) {
                int digit = text.digit(0);
                number = digit == NONE ? number : 10 * number + digit;
            }
            return number;
        }

        private static int valueOf(int sign) {
            switch (sign) {
                case 't':
                    return Rule.T;
                case 'y':
                    return Rule.Y;
                case 'k':
                    return Rule.K;
                case 'n':
                    return Rule.N;
                case 'w':
                    return Rule.W;
                case 'm':
                    return Rule.M;
                case 'i':
                    return Rule.I;
                case 'j':
                    return Rule.J;
                case 'x':
                    return Rule.X;
                default:
                    return NONE;
            }
        }
    }

    /** AN HOUR as it was read. */
    private static final class Acts {
        private static final int MOST_ACTS = 20;

        final int[] kind = new int[MOST_ACTS];
        final int[] face = new int[MOST_ACTS];
        final int[] much = new int[MOST_ACTS];
        int size;
        private final Text text;

        Acts(Text text) {
            this.text = text;
        }

        boolean readAll() {
            size = 0;
            if (text.isOver()) {
                return true;
            }
            for (int k = 0; k < HOUR_SIGNS; k++) {
                if (!readOne()) {
                    return false;
                }
                if (text.isOver()) {
                    return true;
                }
                if (!text.pick(';')) {
                    return false;
                }
            }
            return false;
        }

        private boolean readOne() {
            int sign = text.peek();
            if (sign == 'm') {
                text.step();
                return readMinutes();
            }
            if (sign != 'y' && sign != 'f' && sign != 'a' && sign != 't') {
                return false;
            }
            text.step();
            int letter = text.letter(0);
            if (letter == NONE) {
                return false;
            }
            int tired = sign == 't' ? text.digit(0) : 0;
            return tired != NONE && put(sign, letter, tired);
        }

        private boolean readMinutes() {
            int first = text.digit(0);
            if (first == NONE) {
                return false;
            }
            int second = text.digit(0);
            return put('m', NONE, second == NONE ? first : 10 * first + second);
        }

        private boolean put(int sign, int letter, int number) {
            if (size < 0 || size >= MOST_ACTS) {
                return false;
            }
            kind[size] = sign;
            face[size] = letter;
            much[size] = number;
            size++;
            return true;
        }
    }

    /** What undo() and again() bring back of the wall. */
    private static final class Moment {
        final int[] tired = new int[MOST_FACES];
        final int[] yawned = new int[MOST_FACES];
        final int[] due = new int[MOST_FACES];
        final int[] cause = new int[MOST_FACES];
        int meaning;
        int away;
        int now;

        Moment() {
            dropAll();
        }

        void take(Moment other) {
            System.arraycopy(other.tired, 0, tired, 0, MOST_FACES);
            System.arraycopy(other.yawned, 0, yawned, 0, MOST_FACES);
            System.arraycopy(other.due, 0, due, 0, MOST_FACES);
            System.arraycopy(other.cause, 0, cause, 0, MOST_FACES);
            meaning = other.meaning;
            away = other.away;
            now = other.now;
        }

        void plan(int face, int minute, int from, int meant) {
            if (face < 0 || face >= MOST_FACES) {
                return;
            }
            due[face] = minute;
            cause[face] = from;
            meaning = meant == 1 ? meaning | bit(face) : meaning & ~bit(face);
        }

        void drop(int face) {
            plan(face, NONE, NONE, 0);
        }

        void dropAll() {
            Arrays.fill(due, NONE);
            Arrays.fill(cause, NONE);
            meaning = 0;
        }

        int waiting() {
            int those = 0;
            for (int f = 0; f < MOST_FACES; f++) {
                those |= due[f] != NONE ? bit(f) : 0;
            }
            return those;
        }

        void turnAway(int face) {
            away ^= bit(face);
            drop(face);
        }

        void send(int those) {
            for (int f = 0; f < MOST_FACES; f++) {
                if (has(those & ~away, f)) {
                    turnAway(f);
                }
            }
        }

        /** Nobody (NONE) may be meant: then nothing changes. */
        void tire(int face, int more) {
            if (face >= 0 && face < MOST_FACES) {
                tired[face] = Math.max(0, Math.min(MOST_TIRED, tired[face] + more));
            }
        }
    }

    /** FACES, and how a MINUTE goes by for them. */
    private static final class Wall {
        final int[] delay = new int[MOST_FACES];
        /** As told: also itself, and letters of whom is not there. */
        final int[] sees = new int[MOST_FACES];
        final Moment moment = new Moment();
        int faces;
        /** Of the latest MINUTE: who yawned, whose yawn was meant, who caught one, and the CAUSE of each yawn. */
        int yawners;
        int meant;
        int caught;
        final int[] led = new int[MOST_FACES];
        private final Rule rule;

        Wall(Rule rule) {
            this.rule = rule;
        }

        void take(Wall other) {
            System.arraycopy(other.delay, 0, delay, 0, MOST_FACES);
            System.arraycopy(other.sees, 0, sees, 0, MOST_FACES);
            moment.take(other.moment);
            faces = other.faces;
        }

        int everybody() {
            return bit(faces) - 1;
        }

        int present() {
            return everybody() & ~moment.away;
        }

        int sight(int face) {
            return face < 0 || face >= MOST_FACES ? 0 : sees[face] & everybody() & ~bit(face);
        }

        int sightOf(int those) {
            int bits = 0;
            for (int f = 0; f < faces; f++) {
                bits |= has(those, f) ? sight(f) : 0;
            }
            return bits;
        }

        /** Who SEES one of them, nobody that is AWAY. */
        int seersOf(int those) {
            int bits = 0;
            for (int f = 0; f < faces; f++) {
                bits |= (sight(f) & those) != 0 ? bit(f) : 0;
            }
            return bits & ~moment.away;
        }

        /** With TIREDNESS left aside nobody yawns of himself, and all stay as TIRED as they are. */
        void pass(boolean aside) {
            yawnAll(aside);
            catchAll();
            moment.now++;
            if (!aside && moment.now % 10 == 0) {
                for (int f = 0; f < faces; f++) {
                    moment.tire(f, 1);
                }
            }
        }

        private void yawnAll(boolean aside) {
            yawners = 0;
            meant = 0;
            for (int f = 0; f < faces; f++) {
                boolean tiredOut = !aside && moment.tired[f] == MOST_TIRED && moment.due[f] == NONE;
                if (!has(moment.away, f) && (tiredOut || moment.due[f] == moment.now)) {
                    yawners |= bit(f);
                    meant |= moment.meaning & bit(f);
                    led[f] = moment.cause[f];
                    moment.drop(f);
                    moment.yawned[f]++;
                    moment.tire(f, aside ? 0 : -1);
                }
            }
        }

        /** Those that yawn are known; all others that SEE some of them may CATCH one. */
        void catchAll() {
            caught = 0;
            int others = yawners == 0 ? 0 : present() & ~yawners;
            for (int f = 0; f < faces; f++) {
                int seen = has(others, f) ? sight(f) & yawners : 0;
                if (seen != 0 && moment.due[f] == NONE) {
                    int from = causeFor(f, seen);
                    if (from != NONE) {
                        moment.plan(f, moment.now + delay[f], from, 0);
                        caught |= bit(f);
                    }
                }
            }
        }

        private int causeFor(int face, int seen) {
            int[] values = rule.values;
            values[Rule.T] = moment.tired[face];
            values[Rule.K] = moment.yawned[face];
            values[Rule.N] = Integer.bitCount(seen);
            values[Rule.W] = rule.windAt(moment.now);
            values[Rule.M] = moment.now;
            values[Rule.I] = face;
            for (int g = 0; g < faces; g++) {
                if (has(seen, g)) {
                    values[Rule.Y] = moment.tired[g];
                    values[Rule.J] = g;
                    values[Rule.X] = has(meant, g) ? 1 : 0;
                    if (rule.holds()) {
                        return g;
                    }
                }
            }
            return NONE;
        }
    }

    /** THE BOOK: the last yawns, in a ring. */
    private static final class Book {
        final int[] minute = new int[BOOK_YAWNS];
        final int[] face = new int[BOOK_YAWNS];
        final int[] cause = new int[BOOK_YAWNS];
        final int[] meant = new int[BOOK_YAWNS];
        int size;
        private int first;

        void take(Book other) {
            System.arraycopy(other.minute, 0, minute, 0, BOOK_YAWNS);
            System.arraycopy(other.face, 0, face, 0, BOOK_YAWNS);
            System.arraycopy(other.cause, 0, cause, 0, BOOK_YAWNS);
            System.arraycopy(other.meant, 0, meant, 0, BOOK_YAWNS);
            size = other.size;
            first = other.first;
        }

        boolean holds(int i) {
            return i >= 0 && i < size;
        }

        int place(int i) {
            return Math.floorMod(first + i, BOOK_YAWNS);
        }

        void write(int now, int who, int from, int meaning) {
            int at = place(size);
            minute[at] = now;
            face[at] = who;
            cause[at] = from;
            meant[at] = meaning;
            if (size < BOOK_YAWNS) {
                size++;
            } else {
                first = place(1);
            }
        }

        int causeOf(int i) {
            return cause[place(i)];
        }

        int faceOf(int i) {
            return face[place(i)];
        }

        /** The latest yawn of a FACE in a MINUTE ahead of that of yawn i; NONE: THE BOOK has none. */
        int latestBefore(int i, int who) {
            int now = minute[place(i)];
            for (int k = i - 1; k >= 0; k--) {
                if (face[place(k)] == who && minute[place(k)] < now) {
                    return k;
                }
            }
            return NONE;
        }
    }

    /** All that can be brought back, as it was. */
    private static final class Kept {
        boolean filled;
        int faces;
        private final Moment moment = new Moment();
        private final Book yawns = new Book();

        void take(Wall wall, Book book) {
            moment.take(wall.moment);
            yawns.take(book);
            faces = wall.faces;
            filled = true;
        }

        void give(Wall wall, Book book) {
            wall.moment.take(moment);
            book.take(yawns);
        }
    }

    /** What can be undone, in a ring with one place to spare: the draft of what may yet be refused. */
    private static final class Past {
        private static final int PLACES = MOST_UNDONE + 1;

        int size;
        private final Kept[] places = new Kept[PLACES];
        private int next;

        Past() {
            for (int i = 0; i < PLACES; i++) {
                places[i] = new Kept();
            }
        }

        void draft(Wall wall, Book book) {
            Kept spare = places[next];
            if (spare != null) {
                spare.take(wall, book);
            }
        }

        void confirm() {
            next = (next + 1) % PLACES;
            size = Math.min(size + 1, MOST_UNDONE);
        }

        boolean bringBack(Wall wall, Book book) {
            if (size <= 0) {
                return false;
            }
            next = (next + PLACES - 1) % PLACES;
            size--;
            Kept latest = places[next];
            if (latest != null) {
                latest.give(wall, book);
            }
            return true;
        }
    }

    /** CREWS by their numbers. */
    private static final class Crews {
        private static final int MOST = 5;

        final int[] ready = new int[MOST];
        private final int[] hold = new int[MOST];
        private final int[] late = new int[MOST];
        int size;

        boolean add(int from, int holding, int being) {
            if (size < 0 || size >= MOST) {
                return false;
            }
            ready[size] = from;
            hold[size] = holding;
            late[size] = being;
            size++;
            return true;
        }

        int price(int crew, int from, int start) {
            if (crew < 0 || crew >= MOST) {
                return 0;
            }
            return from <= start ? hold[crew] * (start - from) : late[crew] * (from - start);
        }
    }

    /** Yawns that were seen. */
    private static final class Sightings {
        private static final int MOST = 10;

        int size;
        private final int[] face = new int[MOST];
        private final int[] after = new int[MOST];

        boolean add(int who, int minutes) {
            if (size < 0 || size >= MOST) {
                return false;
            }
            face[size] = who;
            after[size] = minutes;
            size++;
            return true;
        }

        /** Plays the wall on as long as one was seen. */
        boolean comeOn(Wall trial) {
            int last = NONE;
            for (int i = 0; i < size; i++) {
                last = Math.max(last, after[i]);
            }
            for (int m = 0; m <= last; m++) {
                trial.pass(false);
                for (int i = 0; i < size; i++) {
                    if (after[i] == m && !has(trial.yawners, face[i])) {
                        return false;
                    }
                }
            }
            return true;
        }
    }
}
