/** Files sent round and round to whoever listens; the promises stand in DOC.md. */
public final class FileRounds {
    public static final int BAD = -1, NO = -2, FULL = -3, NONE = -4;

    private static final int MAX_LETTERS = 200;
    private static final int MAX_FILES = 6;
    private static final int MAX_NEED = 12;
    private static final int MAX_SPARE = 6;
    private static final int MAX_WEIGHT = 9;
    private static final int MAX_LISTENERS = 4;
    private static final int MAX_LOSS = 99;
    private static final int MAX_VERSION = 99;
    private static final int MAX_TICKS_A_CALL = 99;
    private static final int MAX_TICK = 9999;
    private static final int LAST_SENT_KEPT = 10;
    // A power of two, so that a mask finds the place of a change.
    private static final int CHANGES_KEPT = 4;
    private static final int MAX_BEHIND = 99;
    private static final int MAX_WAIT = 400;
    private static final int MAX_WAITS_IN_MEAN = 40;
    // Stands where the number of a FILE would, so it is what 'sent' answers for a TABLE.
    private static final int TABLE = NONE;

    private final Script script;
    private final Plan read;
    private final Plan laid;
    private final Rounds now;
    private final Past past;
    private final Forecast forecast;

    public FileRounds() {
        script = new Script();
        read = new Plan();
        laid = new Plan();
        laid.addFile(4, 2, 3);
        laid.addFile(6, 0, 1);
        laid.addFile(2, 1, 2);
        laid.setTable(5, 12);
        now = new Rounds(laid);
        now.begin();
        past = new Past(laid);
        forecast = new Forecast(laid);
    }

    public int write(int letter) {
        if (letter < 32 || letter > 126) {
            return BAD;
        }
        return script.append(letter) ? script.length : FULL;
    }

    public int wipe() {
        int before = script.length;
        script.length = 0;
        return before;
    }

    public int fault() {
        return script.firstFault(read);
    }

    public int lay() {
        if (script.firstFault(read) != NONE || read.files == 0) {
            return NO;
        }
        laid.become(read);
        now.begin();
        past.forget();
        return laid.files;
    }

    public int tick(int n) {
        if (n < 1 || n > MAX_TICKS_A_CALL) {
            return BAD;
        }
        if (now.sender.clock + n > MAX_TICK) {
            return NO;
        }
        past.keep(now);
        int before = now.sender.symbols;
        for (int i = 0; i < n; i++) {
            now.advance();
        }
        return now.sender.symbols - before;
    }

    public int renew(int f) {
        if (!laid.hasFile(f)) {
            return BAD;
        }
        past.keep(now);
        return now.sender.startNewVersion(f);
    }

    public int weigh(int f, int w) {
        if (!laid.hasFile(f) || w < 1 || w > MAX_WEIGHT) {
            return BAD;
        }
        int before = now.sender.weight[f];
        if (before == w) {
            return NO;
        }
        past.keep(now);
        now.sender.weight[f] = w;
        return before;
    }

    public int join(int p) {
        if (p < 0 || p > MAX_LOSS) {
            return BAD;
        }
        if (!now.hasRoom()) {
            return FULL;
        }
        past.keep(now);
        return now.addListener(p);
    }

    public int repair(int l, int f) {
        if (!now.hasListener(l) || !laid.hasFile(f)) {
            return BAD;
        }
        Listener who = now.listeners[l];
        if (!who.knowsIn(now.sender.clock) || who.lacks(f) == 0) {
            return NO;
        }
        past.keep(now);
        return who.fillUp(f);
    }

    public int undo() {
        return past.giveBack(now) ? past.size : NO;
    }

    public int file(int f, int what) {
        if (!laid.hasFile(f)) {
            return BAD;
        }
        Sender sender = now.sender;
        switch (what) {
            case 0: return laid.need[f];
            case 1: return laid.spare[f];
            case 2: return sender.weight[f];
            case 3: return sender.version[f];
            case 4: return sender.next[f];
            case 5: return sender.credit[f] + 1000;
            case 6: return sender.sentOf[f];
            case 7: return partBits(sender.sentOf[f], sender.symbols);
            default: return BAD;
        }
    }

    public int sent(int k, int what) {
        if (k < 0 || k >= LAST_SENT_KEPT || what < 0 || what > 3) {
            return BAD;
        }
        int turn = now.sender.clock - 1 - k;
        if (turn < 0) {
            return NONE;
        }
        switch (what) {
            case 0: return now.sender.fileIn(turn);
            case 1: return now.sender.symbolIn(turn);
            case 2: return now.sender.versionIn(turn);
            default: return turn;
        }
    }

    public int listener(int l, int what) {
        if (!now.hasListener(l)) {
            return BAD;
        }
        Listener who = now.listeners[l];
        switch (what) {
            case 0: return who.loss;
            case 1: return who.came;
            case 2: return who.knowsIn(now.sender.clock) ? 1 : 0;
            case 3: return who.livesTo;
            case 4: return who.wholeBits();
            case 5: return who.missed;
            default: return BAD;
        }
    }

    public int holds(int l, int f, int what) {
        if (!now.hasListener(l) || !laid.hasFile(f)) {
            return BAD;
        }
        Listener who = now.listeners[l];
        switch (what) {
            case 0: return who.held[f];
            case 1: return who.told[f];
            case 2: return who.lacks(f);
            default: return BAD;
        }
    }

    public int waits(int f, int b) {
        if (!laid.hasFile(f) || b < 0 || b > MAX_BEHIND) {
            return BAD;
        }
        forecast.look(now.sender, f, b + MAX_WAIT);
        return forecast.waitBehind(b);
    }

    public int mean(int f, int n, int what) {
        if (!laid.hasFile(f) || n < 1 || n > MAX_WAITS_IN_MEAN || what < 0 || what > 2) {
            return BAD;
        }
        forecast.look(now.sender, f, n - 1 + MAX_WAIT);
        int sum = 0;
        int greatest = 0;
        for (int b = 0; b < n; b++) {
            int wait = forecast.waitBehind(b);
            if (wait == NONE) {
                return NONE;
            }
            sum += wait;
            greatest = Math.max(greatest, wait);
        }
        float average = (float) sum / (float) n;
        switch (what) {
            case 0: return bitsOf(average);
            case 1: return (int) average;
            default: return greatest;
        }
    }

    public int count(int what) {
        switch (what) {
            case 0: return laid.files;
            case 1: return now.sender.clock;
            case 2: return laid.every;
            case 3: return laid.life;
            case 4: return now.joined;
            case 5: return now.sender.tables;
            case 6: return now.sender.symbols;
            case 7: return now.sender.allWeights();
            case 8: return past.size;
            case 9: return script.length;
            default: return BAD;
        }
    }

    private static int partBits(int ofFile, int ofAll) {
        if (ofAll < 1) {
            return NONE;
        }
        return bitsOf((float) ofFile / (float) ofAll);
    }

    /**
     * The bits of a float as IEEE 754 lays them, reckoned, since LANGUAGE.md leaves out the library's
     * own function. It is right for 0 and for normal floats above 0, and no PART or MEAN is another
     * one. Halves and doubles of such floats are exact, so nothing is rounded on the way.
     */
    private static int bitsOf(float value) {
        if (!(value > 0f)) {
            return 0;
        }
        float lead = value;
        int exponent = 127;
        for (int i = 0; i < 128 && lead >= 2f; i++) {
            lead = lead / 2f;
            exponent++;
        }
        for (int i = 0; i < 128 && lead < 1f; i++) {
            lead = lead * 2f;
            exponent--;
        }
        return (exponent << 23) + (int) ((lead - 1f) * 8388608f);
    }

    /** THE TEXT, and how it is read. */
    private static final class Script {
        private final int[] letters = new int[MAX_LETTERS];
        private int length;
        private int at;

        boolean append(int letter) {
            if (length < 0 || length >= MAX_LETTERS) {
                return false;
            }
            letters[length] = letter;
            length++;
            return true;
        }

        /** Reads THE TEXT into a plan: where the first FAULT is, or NONE. */
        int firstFault(Plan plan) {
            plan.clear();
            at = 0;
            for (int items = 0; items < MAX_LETTERS && at < length; items++) {
                int start = at;
                if (!readItem(plan)) {
                    return start;
                }
            }
            return NONE;
        }

        private boolean readItem(Plan plan) {
            if (takes('f')) {
                return readFile(plan);
            }
            return takes('t') && readTable(plan);
        }

        private boolean readFile(Plan plan) {
            int need = readNumber(',');
            int spare = readNumber(',');
            int weight = readNumber(';');
            if (need < 1 || need > MAX_NEED || spare < 0 || spare > MAX_SPARE) {
                return false;
            }
            return weight >= 1 && weight <= MAX_WEIGHT && plan.addFile(need, spare, weight);
        }

        private boolean readTable(Plan plan) {
            int every = readNumber(',');
            int life = readNumber(';');
            if (every < 3 || every > 20 || life < 1) {
                return false;
            }
            plan.setTable(every, life);
            return true;
        }

        /** A number of one or two figures and the sign behind it: BAD if it is not so. */
        private int readNumber(int sign) {
            int value = readFigure();
            if (value == BAD) {
                return BAD;
            }
            int second = readFigure();
            if (second != BAD) {
                value = value * 10 + second;
            }
            return takes(sign) ? value : BAD;
        }

        private int readFigure() {
            if (at < 0 || at >= length || letters[at] < '0' || letters[at] > '9') {
                return BAD;
            }
            int figure = letters[at] - '0';
            at++;
            return figure;
        }

        private boolean takes(int sign) {
            if (at < 0 || at >= length || letters[at] != sign) {
                return false;
            }
            at++;
            return true;
        }
    }

    /** What a TEXT tells: it stays as it is until another one is LAID. */
    private static final class Plan {
        private final int[] need = new int[MAX_FILES];
        private final int[] spare = new int[MAX_FILES];
        private final int[] firstWeight = new int[MAX_FILES];
        private int files;
        private int every;
        private int life;

        void clear() {
            files = 0;
            setTable(6, 20);
        }

        boolean addFile(int needed, int spared, int weight) {
            if (files < 0 || files >= MAX_FILES) {
                return false;
            }
            need[files] = needed;
            spare[files] = spared;
            firstWeight[files] = weight;
            files++;
            return true;
        }

        void setTable(int ticks, int lives) {
            every = ticks;
            life = lives;
        }

        boolean hasFile(int f) {
            return f >= 0 && f < files;
        }

        int symbolsOf(int f) {
            return need[f] + spare[f];
        }

        boolean isTableTurn(int turn) {
            return every > 0 && turn % every == 0;
        }

        void become(Plan other) {
            System.arraycopy(other.need, 0, need, 0, MAX_FILES);
            System.arraycopy(other.spare, 0, spare, 0, MAX_FILES);
            System.arraycopy(other.firstWeight, 0, firstWeight, 0, MAX_FILES);
            files = other.files;
            every = other.every;
            life = other.life;
        }
    }

    /** What sends: the FILES as they stand and what was SENT last. */
    private static final class Sender {
        private final Plan plan;
        private final int[] weight = new int[MAX_FILES];
        private final int[] version = new int[MAX_FILES];
        private final int[] next = new int[MAX_FILES];
        private final int[] credit = new int[MAX_FILES];
        private final int[] sentOf = new int[MAX_FILES];
        private final int[] lastFiles = new int[LAST_SENT_KEPT];
        private final int[] lastSymbols = new int[LAST_SENT_KEPT];
        private final int[] lastVersions = new int[LAST_SENT_KEPT];
        private int clock;
        private int tables;
        private int symbols;

        Sender(Plan laid) {
            plan = laid;
        }

        void begin() {
            System.arraycopy(plan.firstWeight, 0, weight, 0, MAX_FILES);
            for (int f = 0; f < MAX_FILES; f++) {
                version[f] = 0;
                next[f] = 0;
                credit[f] = 0;
                sentOf[f] = 0;
            }
            clock = 0;
            tables = 0;
            symbols = 0;
        }

        void become(Sender other) {
            System.arraycopy(other.weight, 0, weight, 0, MAX_FILES);
            System.arraycopy(other.version, 0, version, 0, MAX_FILES);
            System.arraycopy(other.next, 0, next, 0, MAX_FILES);
            System.arraycopy(other.credit, 0, credit, 0, MAX_FILES);
            System.arraycopy(other.sentOf, 0, sentOf, 0, MAX_FILES);
            System.arraycopy(other.lastFiles, 0, lastFiles, 0, LAST_SENT_KEPT);
            System.arraycopy(other.lastSymbols, 0, lastSymbols, 0, LAST_SENT_KEPT);
            System.arraycopy(other.lastVersions, 0, lastVersions, 0, LAST_SENT_KEPT);
            clock = other.clock;
            tables = other.tables;
            symbols = other.symbols;
        }

        /** One TICK. */
        void step() {
            if (plan.isTableTurn(clock)) {
                note(TABLE, NONE, NONE);
                tables++;
            } else {
                sendSymbol(chooseFile());
            }
            clock++;
        }

        private int chooseFile() {
            int all = allWeights();
            int best = 0;
            for (int f = 0; f < plan.files; f++) {
                credit[f] += weight[f];
                if (credit[f] > credit[best]) {
                    best = f;
                }
            }
            credit[best] -= all;
            return best;
        }

        private void sendSymbol(int f) {
            int symbol = next[f];
            note(f, symbol, version[f]);
            next[f] = symbol + 1 < plan.symbolsOf(f) ? symbol + 1 : 0;
            sentOf[f]++;
            symbols++;
        }

        private void note(int f, int symbol, int ofVersion) {
            int place = placeOf(clock);
            lastFiles[place] = f;
            lastSymbols[place] = symbol;
            lastVersions[place] = ofVersion;
        }

        private static int placeOf(int turn) {
            return Math.floorMod(turn, LAST_SENT_KEPT);
        }

        int fileIn(int turn) {
            return lastFiles[placeOf(turn)];
        }

        int symbolIn(int turn) {
            return lastSymbols[placeOf(turn)];
        }

        int versionIn(int turn) {
            return lastVersions[placeOf(turn)];
        }

        int startNewVersion(int f) {
            version[f] = version[f] < MAX_VERSION ? version[f] + 1 : 0;
            next[f] = 0;
            return version[f];
        }

        int allWeights() {
            int all = 0;
            for (int f = 0; f < plan.files; f++) {
                all += weight[f];
            }
            return all;
        }
    }

    /** One who listens. */
    private static final class Listener {
        private final Plan plan;
        private final int number;
        private final int[] held = new int[MAX_FILES];
        private final int[] told = new int[MAX_FILES];
        private int loss;
        private int came;
        // NONE before a TABLE came: it lies below every TICK, so nothing is known then.
        private int livesTo;
        private int missed;

        Listener(Plan laid, int which) {
            plan = laid;
            number = which;
        }

        void enter(int lossOfIt, int turn) {
            loss = lossOfIt;
            came = turn;
            livesTo = NONE;
            missed = 0;
            for (int f = 0; f < MAX_FILES; f++) {
                held[f] = 0;
                told[f] = NONE;
            }
        }

        void become(Listener other) {
            System.arraycopy(other.held, 0, held, 0, MAX_FILES);
            System.arraycopy(other.told, 0, told, 0, MAX_FILES);
            loss = other.loss;
            came = other.came;
            livesTo = other.livesTo;
            missed = other.missed;
        }

        /** What was SENT in a TICK comes to it or is lost. */
        void hear(Sender sender, int turn) {
            if (loses(turn)) {
                missed++;
                return;
            }
            int f = sender.fileIn(turn);
            if (f == TABLE) {
                takeTable(sender.version, turn);
            } else if (plan.hasFile(f)) {
                takeSymbol(f, sender.symbolIn(turn), sender.versionIn(turn), turn);
            }
        }

        private boolean loses(int turn) {
            long x = 7919L * number + 3571L * turn + 1L;
            return x * x % 65521L % 100L < loss;
        }

        // What it holds is always of the VERSION told last, as each TABLE drops all others.
        private void takeTable(int[] versions, int turn) {
            for (int f = 0; f < plan.files; f++) {
                if (told[f] != versions[f]) {
                    held[f] = 0;
                    told[f] = versions[f];
                }
            }
            livesTo = turn + plan.life - 1;
        }

        private void takeSymbol(int f, int symbol, int version, int turn) {
            if (knowsIn(turn) && told[f] == version) {
                held[f] |= 1 << symbol;
            }
        }

        boolean knowsIn(int turn) {
            return turn <= livesTo;
        }

        int lacks(int f) {
            return Math.max(0, plan.need[f] - Integer.bitCount(held[f]));
        }

        int wholeBits() {
            int bits = 0;
            for (int f = 0; f < plan.files; f++) {
                if (lacks(f) == 0) {
                    bits |= 1 << f;
                }
            }
            return bits;
        }

        /** It holds the lowest SYMBOLS that it lacks, too: how many more. */
        int fillUp(int f) {
            int more = lacks(f);
            int left = more;
            for (int symbol = 0; symbol < plan.symbolsOf(f) && left > 0; symbol++) {
                int bit = 1 << symbol;
                if ((held[f] & bit) == 0) {
                    held[f] |= bit;
                    left--;
                }
            }
            return more;
        }
    }

    /** All that a change changes. */
    private static final class Rounds {
        private final Sender sender;
        private final Listener[] listeners = new Listener[MAX_LISTENERS];
        private int joined;

        Rounds(Plan laid) {
            sender = new Sender(laid);
            for (int l = 0; l < MAX_LISTENERS; l++) {
                listeners[l] = new Listener(laid, l);
            }
        }

        void begin() {
            sender.begin();
            joined = 0;
        }

        void become(Rounds other) {
            sender.become(other.sender);
            joined = other.joined;
            for (int l = 0; l < joined; l++) {
                listeners[l].become(other.listeners[l]);
            }
        }

        boolean hasListener(int l) {
            return l >= 0 && l < joined;
        }

        boolean hasRoom() {
            return joined >= 0 && joined < MAX_LISTENERS;
        }

        /** Its number; called only while there is room. */
        int addListener(int loss) {
            int l = joined;
            listeners[l].enter(loss, sender.clock);
            joined = l + 1;
            return l;
        }

        void advance() {
            int turn = sender.clock;
            sender.step();
            for (int l = 0; l < joined; l++) {
                listeners[l].hear(sender, turn);
            }
        }
    }

    /** How things stood ahead of each of the last changes; the rows are made once. */
    private static final class Past {
        private final Rounds[] kept = new Rounds[CHANGES_KEPT];
        private int made;
        private int size;

        Past(Plan laid) {
            for (int i = 0; i < CHANGES_KEPT; i++) {
                kept[i] = new Rounds(laid);
            }
        }

        void keep(Rounds now) {
            kept[made & (CHANGES_KEPT - 1)].become(now);
            made++;
            size = Math.min(size + 1, CHANGES_KEPT);
        }

        boolean giveBack(Rounds now) {
            if (size < 1) {
                return false;
            }
            size--;
            made--;
            now.become(kept[made & (CHANGES_KEPT - 1)]);
            return true;
        }

        void forget() {
            size = 0;
        }
    }

    /** What will be SENT of one FILE from now on, and how long one who comes then waits for it. */
    private static final class Forecast {
        private static final int OTHER_FILE = -1;

        private final Plan plan;
        private final Sender ahead;
        // In each TICK from now on: a SYMBOL of the FILE, TABLE or OTHER_FILE.
        private final int[] coming = new int[MAX_BEHIND + MAX_WAIT];
        private int known;
        private int need;

        Forecast(Plan laid) {
            plan = laid;
            ahead = new Sender(laid);
        }

        void look(Sender now, int f, int ticks) {
            ahead.become(now);
            need = plan.need[f];
            known = Math.max(0, Math.min(ticks, coming.length));
            for (int i = 0; i < known; i++) {
                int turn = ahead.clock;
                ahead.step();
                coming[i] = seenAs(f, turn);
            }
        }

        private int seenAs(int f, int turn) {
            int who = ahead.fileIn(turn);
            if (who == TABLE) {
                return TABLE;
            }
            return who == f ? ahead.symbolIn(turn) : OTHER_FILE;
        }

        int waitBehind(int b) {
            int held = 0;
            int livesTo = NONE;
            for (int i = Math.max(0, b); i < known && i - b < MAX_WAIT; i++) {
                int thing = coming[i];
                if (thing == TABLE) {
                    livesTo = i + plan.life - 1;
                } else if (thing >= 0 && i <= livesTo) {
                    held |= 1 << thing;
                }
                if (Integer.bitCount(held) >= need) {
                    return i - b + 1;
                }
            }
            return NONE;
        }
    }
}
