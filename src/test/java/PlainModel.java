import java.util.ArrayList;
import java.util.HashMap;
import java.util.HashSet;
import java.util.List;
import java.util.Map;
import java.util.Set;
import java.util.regex.Matcher;
import java.util.regex.Pattern;

/**
 * The document once more, as slow and plain as can be and in another way than the program: what was
 * laid and the changes since are a list, and all that stands is made from it anew.
 */
final class PlainModel {
    private static final int BAD = -1, NO = -2, FULL = -3, NONE = -4;
    private static final Pattern FILE = Pattern.compile("f([0-9]{1,2}),([0-9]{1,2}),([0-9]{1,2});");
    private static final Pattern TABLE = Pattern.compile("t([0-9]{1,2}),([0-9]{1,2});");

    private String text = "";
    private Laid laid = new Laid(List.of(new int[] {4, 2, 3}, new int[] {6, 0, 1}, new int[] {2, 1, 2}), 5, 12);
    private final List<int[]> changes = new ArrayList<>();
    private int canUndo = 0;
    private World world = new World(laid);

    record Laid(List<int[]> files, int every, int life) {
    }

    record Told(int tick, Map<Integer, Integer> versions) {
    }

    record Symbol(int file, int number, int version) {
    }

    /** What was SENT in one TICK: a table or a symbol. */
    record Thing(int tick, Told table, Symbol symbol) {
    }

    static final class Ear {
        int loss;
        int came;
        int missed;
        Told told;
        Set<Symbol> held = new HashSet<>();

        int holdsOf(int f) {
            int n = 0;
            for (Symbol s : held) {
                n += s.file() == f ? 1 : 0;
            }
            return n;
        }
    }

    static final class World {
        final Laid laid;
        final Map<Integer, Integer> weight = new HashMap<>();
        final Map<Integer, Integer> version = new HashMap<>();
        final Map<Integer, Integer> next = new HashMap<>();
        final Map<Integer, Integer> credit = new HashMap<>();
        final List<Thing> things = new ArrayList<>();
        final List<Ear> ears = new ArrayList<>();

        World(Laid what) {
            laid = what;
            for (int f = 0; f < laid.files().size(); f++) {
                weight.put(f, laid.files().get(f)[2]);
                version.put(f, 0);
                next.put(f, 0);
                credit.put(f, 0);
            }
        }

        int weights() {
            return weight.values().stream().mapToInt(Integer::intValue).sum();
        }

        boolean knows(Ear ear, int tick) {
            return ear.told != null && tick < ear.told.tick() + laid.life();
        }

        boolean whole(Ear ear, int f) {
            return ear.holdsOf(f) >= laid.files().get(f)[0];
        }

        void apply(int[] change) {
            switch (change[0]) {
                case 't' -> {
                    for (int i = 0; i < change[1]; i++) {
                        oneTick();
                    }
                }
                case 'r' -> {
                    version.put(change[1], (version.get(change[1]) + 1) % 100);
                    next.put(change[1], 0);
                }
                case 'w' -> weight.put(change[1], change[2]);
                case 'j' -> {
                    Ear ear = new Ear();
                    ear.loss = change[1];
                    ear.came = things.size();
                    ears.add(ear);
                }
                default -> repair(ears.get(change[1]), change[2]);
            }
        }

        private void repair(Ear ear, int f) {
            for (int s = 0; !whole(ear, f); s++) {
                ear.held.add(new Symbol(f, s, ear.told.versions().get(f)));
            }
        }

        void oneTick() {
            int t = things.size();
            Thing thing = t % laid.every() == 0
                ? new Thing(t, new Told(t, new HashMap<>(version)), null) : new Thing(t, null, nextSymbol());
            things.add(thing);
            for (int l = 0; l < ears.size(); l++) {
                long x = 7919L * l + 3571L * t + 1;
                if (Math.floorMod(Math.floorMod(x * x, 65521L), 100L) < ears.get(l).loss) {
                    ears.get(l).missed++;
                } else {
                    gets(ears.get(l), thing);
                }
            }
        }

        private Symbol nextSymbol() {
            int most = Integer.MIN_VALUE;
            int who = -1;
            for (int f = laid.files().size() - 1; f >= 0; f--) {
                credit.merge(f, weight.get(f), Integer::sum);
                if (credit.get(f) >= most) {
                    most = credit.get(f);
                    who = f;
                }
            }
            credit.merge(who, -weights(), Integer::sum);
            Symbol s = new Symbol(who, next.get(who), version.get(who));
            int all = laid.files().get(who)[0] + laid.files().get(who)[1];
            next.put(who, (s.number() + 1) % all);
            return s;
        }

        private void gets(Ear ear, Thing thing) {
            if (thing.table() != null) {
                ear.told = thing.table();
                ear.held.removeIf(s -> s.version() != ear.told.versions().get(s.file()));
            } else if (knows(ear, thing.tick())) {
                Symbol s = thing.symbol();
                if (ear.told.versions().get(s.file()) == s.version()) {
                    ear.held.add(s);
                }
            }
        }
    }

    private World anew() {
        World w = new World(laid);
        for (int[] change : changes) {
            w.apply(change);
        }
        return w;
    }

    private void change(int... what) {
        changes.add(what);
        canUndo = Math.min(4, canUndo + 1);
        world.apply(what);
    }

    private boolean isFile(int f) {
        return 0 <= f && f < laid.files().size();
    }

    private boolean isEar(int l) {
        return 0 <= l && l < world.ears.size();
    }

    private int tickNow() {
        return world.things.size();
    }

    int write(int letter) {
        if (letter < 32 || letter > 126) {
            return BAD;
        }
        if (text.length() == 200) {
            return FULL;
        }
        text += (char) letter;
        return text.length();
    }

    int wipe() {
        int n = text.length();
        text = "";
        return n;
    }

    private static boolean in(int low, String number, int high) {
        int n = Integer.parseInt(number);
        return low <= n && n <= high;
    }

    /** What THE TEXT tells, or, with a fault, where it is. */
    private Object parse() {
        List<int[]> files = new ArrayList<>();
        int[] table = {6, 20};
        int at = 0;
        while (at < text.length()) {
            Matcher f = FILE.matcher(text).region(at, text.length());
            Matcher t = TABLE.matcher(text).region(at, text.length());
            if (f.lookingAt() && in(1, f.group(1), 12) && in(0, f.group(2), 6) && in(1, f.group(3), 9) && files.size() < 6) {
                files.add(new int[] {
                    Integer.parseInt(f.group(1)), Integer.parseInt(f.group(2)), Integer.parseInt(f.group(3))});
                at = f.end();
            } else if (t.lookingAt() && in(3, t.group(1), 20) && in(1, t.group(2), 99)) {
                table = new int[] {Integer.parseInt(t.group(1)), Integer.parseInt(t.group(2))};
                at = t.end();
            } else {
                return at;
            }
        }
        return new Laid(files, table[0], table[1]);
    }

    int fault() {
        return parse() instanceof Integer at ? at : NONE;
    }

    int lay() {
        if (!(parse() instanceof Laid told) || told.files().isEmpty()) {
            return NO;
        }
        laid = told;
        changes.clear();
        canUndo = 0;
        world = anew();
        return laid.files().size();
    }

    private int symbolsSent() {
        return (int) world.things.stream().filter(x -> x.symbol() != null).count();
    }

    int tick(int n) {
        if (n < 1 || n > 99) {
            return BAD;
        }
        if (tickNow() + n > 9999) {
            return NO;
        }
        int before = symbolsSent();
        change('t', n);
        return symbolsSent() - before;
    }

    int renew(int f) {
        if (!isFile(f)) {
            return BAD;
        }
        change('r', f);
        return world.version.get(f);
    }

    int weigh(int f, int w) {
        if (!isFile(f) || w < 1 || w > 9) {
            return BAD;
        }
        int before = world.weight.get(f);
        if (before == w) {
            return NO;
        }
        change('w', f, w);
        return before;
    }

    int join(int p) {
        if (p < 0 || p > 99) {
            return BAD;
        }
        if (world.ears.size() == 4) {
            return FULL;
        }
        change('j', p);
        return world.ears.size() - 1;
    }

    int repair(int l, int f) {
        if (!isEar(l) || !isFile(f)) {
            return BAD;
        }
        Ear ear = world.ears.get(l);
        if (!world.knows(ear, tickNow()) || world.whole(ear, f)) {
            return NO;
        }
        int before = ear.held.size();
        change('p', l, f);
        return ear.held.size() - before;
    }

    int undo() {
        if (canUndo == 0) {
            return NO;
        }
        changes.remove(changes.size() - 1);
        canUndo--;
        world = anew();
        return canUndo;
    }

    int file(int f, int what) {
        if (!isFile(f) || what < 0 || what > 7) {
            return BAD;
        }
        long own = world.things.stream().filter(x -> x.symbol() != null && x.symbol().file() == f).count();
        return switch (what) {
            case 0, 1 -> laid.files().get(f)[what];
            case 2 -> world.weight.get(f);
            case 3 -> world.version.get(f);
            case 4 -> world.next.get(f);
            case 5 -> world.credit.get(f) + 1000;
            case 6 -> (int) own;
            default -> symbolsSent() == 0 ? NONE : Float.floatToIntBits((float) own / (float) symbolsSent());
        };
    }

    int sent(int k, int what) {
        if (k < 0 || k > 9 || what < 0 || what > 3) {
            return BAD;
        }
        if (k >= tickNow()) {
            return NONE;
        }
        Thing thing = world.things.get(tickNow() - 1 - k);
        if (what == 3) {
            return thing.tick();
        }
        Symbol s = thing.symbol();
        return s == null ? NONE : what == 0 ? s.file() : what == 1 ? s.number() : s.version();
    }

    int listener(int l, int what) {
        if (!isEar(l) || what < 0 || what > 5) {
            return BAD;
        }
        Ear ear = world.ears.get(l);
        int whole = 0;
        for (int f = 0; f < laid.files().size(); f++) {
            whole += world.whole(ear, f) ? 1 << f : 0;
        }
        return switch (what) {
            case 0 -> ear.loss;
            case 1 -> ear.came;
            case 2 -> world.knows(ear, tickNow()) ? 1 : 0;
            case 3 -> ear.told == null ? NONE : ear.told.tick() + laid.life() - 1;
            case 4 -> whole;
            default -> ear.missed;
        };
    }

    int holds(int l, int f, int what) {
        if (!isEar(l) || !isFile(f) || what < 0 || what > 2) {
            return BAD;
        }
        Ear ear = world.ears.get(l);
        int bits = 0;
        for (Symbol s : ear.held) {
            bits += s.file() == f ? 1 << s.number() : 0;
        }
        return switch (what) {
            case 0 -> bits;
            case 1 -> ear.told == null ? NONE : ear.told.versions().get(f);
            default -> world.whole(ear, f) ? 0 : laid.files().get(f)[0] - ear.holdsOf(f);
        };
    }

    private int waitOf(int f, int b) {
        World w = anew();
        w.ears.clear();
        w.apply(new int[] {'t', b});
        w.apply(new int[] {'j', 0});
        for (int t = 1; t <= 400; t++) {
            w.oneTick();
            if (w.whole(w.ears.get(0), f)) {
                return t;
            }
        }
        return NONE;
    }

    int waits(int f, int b) {
        if (!isFile(f) || b < 0 || b > 99) {
            return BAD;
        }
        return waitOf(f, b);
    }

    int mean(int f, int n, int what) {
        if (!isFile(f) || n < 1 || n > 40 || what < 0 || what > 2) {
            return BAD;
        }
        int sum = 0;
        int most = 0;
        for (int b = 0; b < n; b++) {
            int wait = waitOf(f, b);
            if (wait == NONE) {
                return NONE;
            }
            sum += wait;
            most = Math.max(most, wait);
        }
        float mean = (float) sum / (float) n;
        return what == 0 ? Float.floatToIntBits(mean) : what == 1 ? (int) mean : most;
    }

    int count(int what) {
        return switch (what) {
            case 0 -> laid.files().size();
            case 1 -> tickNow();
            case 2 -> laid.every();
            case 3 -> laid.life();
            case 4 -> world.ears.size();
            case 5 -> tickNow() - symbolsSent();
            case 6 -> symbolsSent();
            case 7 -> world.weights();
            case 8 -> canUndo;
            case 9 -> text.length();
            default -> BAD;
        };
    }
}
