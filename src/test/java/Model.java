import java.util.ArrayList;
import java.util.HashMap;
import java.util.List;
import java.util.Map;
import java.util.function.Predicate;
import java.util.function.ToIntFunction;

/**
 * The document read once more, with the whole Java library and no thought for speed: every answer is
 * found by trying all, every undo is a copy of all. RandomRunsTest compares the class with it.
 */
final class Model {
    static final List<String> KINDS = List.of("dress", "coat", "uniform", "mask", "set");

    /** What a law is asked about. */
    static final class Facts extends HashMap<String, Integer> {
        private static final long serialVersionUID = 1L;

        Facts with(String name, int v) {
            put(name, v);
            return this;
        }
    }

    record Line(String word, ToIntFunction<Facts> e, Predicate<Facts> b) {
    }

    record Wear(int scene, int actor, int kind) {
    }

    record Wish(int thing, int day, int n, int pays) {
    }

    record Entry(int day, int thing, int what, int purse) {
    }

    static final class Thing {
        int kind;
        int lets;
        int dirt;
        int torn;
        int worn;
        int holder = -1;
        int slot = -1;
        int due = -1;
        int deposit;
        int[] made = new int[5];
        int[] now = new int[5];

        Thing copy() {
            Thing t = new Thing();
            t.kind = kind;
            t.lets = lets;
            t.dirt = dirt;
            t.torn = torn;
            t.worn = worn;
            t.holder = holder;
            t.slot = slot;
            t.due = due;
            t.deposit = deposit;
            t.made = made.clone();
            t.now = now.clone();
            return t;
        }
    }

    static final class State {
        int draws;
        int purse;
        int day;
        List<Thing> things = new ArrayList<>();
        List<int[]> actors = new ArrayList<>();
        List<Integer> racks = new ArrayList<>();
        List<Entry> book = new ArrayList<>();
        List<List<Line>> laws = new ArrayList<>(List.of(List.of(), List.of()));
        List<Integer> minutes = List.of();
        List<Wear> wears = List.of();
        List<Wish> wishes = new ArrayList<>();

        State copy() {
            State s = new State();
            s.draws = draws;
            s.purse = purse;
            s.day = day;
            for (Thing t : things) {
                s.things.add(t.copy());
            }
            for (int[] a : actors) {
                s.actors.add(a.clone());
            }
            s.racks.addAll(racks);
            s.book.addAll(book);
            s.laws = new ArrayList<>(laws);
            s.minutes = minutes;
            s.wears = wears;
            s.wishes = new ArrayList<>(wishes);
            return s;
        }
    }

    private State s = new State();
    private State image = null;
    private final List<State> undone = new ArrayList<>();
    private final StringBuilder tape = new StringBuilder();
    private int fault = 0;
    private int place = -1;

    private void act() {
        undone.add(s.copy());
        if (undone.size() > 6) {
            undone.remove(0);
        }
    }

    private void write(int thing, int what) {
        if (s.book.size() < 120) {
            s.book.add(new Entry(s.day, thing, what, s.purse));
        }
    }

    private boolean isThing(int t) {
        return t >= 0 && t < s.things.size();
    }

    private boolean isActor(int a) {
        return a >= 0 && a < s.actors.size();
    }

    private boolean trunk(int t) {
        return s.things.get(t).kind == 5;
    }

    private boolean out(int t) {
        int holder = s.things.get(t).holder;
        return holder == 100 || (holder >= 10 && out(holder - 10));
    }

    private boolean free(int t) {
        return !out(t);
    }

    // ---- told

    int state(int v) {
        int was = s.draws;
        s.draws = v;
        undone.clear();
        return was;
    }

    int thing(int kind, int lets) {
        if (kind < 0 || kind > 5 || lets < 0 || lets > 20 || s.things.size() == 16) {
            return -1;
        }
        Thing t = new Thing();
        t.kind = kind;
        t.lets = lets;
        s.things.add(t);
        undone.clear();
        return s.things.size() - 1;
    }

    int actor() {
        if (s.actors.size() == 6) {
            return -1;
        }
        s.actors.add(new int[5]);
        undone.clear();
        return s.actors.size() - 1;
    }

    int rack(int slots) {
        if (slots < 1 || slots > 8 || s.racks.size() == 4) {
            return -1;
        }
        s.racks.add(slots);
        undone.clear();
        return s.racks.size() - 1;
    }

    boolean measure(boolean actor, int who, int m, int v) {
        if (m < 0 || m > 4 || v < 0 || v > 99) {
            return false;
        }
        if (actor) {
            if (!isActor(who)) {
                return false;
            }
            s.actors.get(who)[m] = v;
        } else {
            if (!isThing(who) || trunk(who)) {
                return false;
            }
            s.things.get(who).made[m] = v;
            s.things.get(who).now[m] = v;
        }
        undone.clear();
        return true;
    }

    boolean set(int what, int thing, int v) {
        if (what == 4) {
            s.purse = v;
            undone.clear();
            return true;
        }
        if (what < 0 || what > 4 || !isThing(thing) || v < 0 || v > new int[] {9, 9, 999, 20}[what]) {
            return false;
        }
        Thing t = s.things.get(thing);
        if (what == 0) {
            t.dirt = v;
        } else if (what == 1) {
            t.torn = v;
        } else if (what == 2) {
            t.worn = v;
        } else {
            t.lets = v;
        }
        undone.clear();
        return true;
    }

    int wish(int thing, int day, int n, int pays) {
        if (thing == -1) {
            s.wishes.clear();
            return 0;
        }
        if (!isThing(thing) || day < 0 || day > 9999 || n < 1 || n > 99 || pays < 0 || pays > 9999
                || s.wishes.size() == 10) {
            return -1;
        }
        s.wishes.add(new Wish(thing, day, n, pays));
        return s.wishes.size();
    }

    // ---- acts

    private int slots(int holder) {
        if (holder >= 0 && holder < s.racks.size()) {
            return s.racks.get(holder);
        }
        return holder >= 10 && isThing(holder - 10) && trunk(holder - 10) ? 4 : 0;
    }

    private int inSlot(int holder, int slot) {
        for (int t = 0; t < s.things.size(); t++) {
            if (s.things.get(t).holder == holder && s.things.get(t).slot == slot) {
                return t;
            }
        }
        return -1;
    }

    private boolean holderOut(int holder) {
        return holder >= 10 && out(holder - 10);
    }

    private List<Integer> allIn(int holder) {
        List<Integer> all = new ArrayList<>();
        for (int t = 0; t < s.things.size(); t++) {
            if (s.things.get(t).holder == holder) {
                all.add(t);
                if (trunk(t)) {
                    all.addAll(allIn(10 + t));
                }
            }
        }
        return all;
    }

    private int deep(int t) {
        if (!trunk(t)) {
            return 0;
        }
        int most = 0;
        for (int slot = 0; slot < 4; slot++) {
            int in = inSlot(10 + t, slot);
            if (in >= 0) {
                most = Math.max(most, deep(in));
            }
        }
        return 1 + most;
    }

    boolean put(int thing, int holder, int slot) {
        if (!isThing(thing) || s.things.get(thing).holder != -1 || slot < 0 || slot >= slots(holder)
                || inSlot(holder, slot) >= 0 || holderOut(holder)) {
            return false;
        }
        if (holder == 10 + thing || (trunk(thing) && holder >= 10 && allIn(10 + thing).contains(holder - 10))) {
            return false;
        }
        // Tried, then looked at: is a trunk too deep now?
        State before = s.copy();
        s.things.get(thing).holder = holder;
        s.things.get(thing).slot = slot;
        for (int t = 0; t < s.things.size(); t++) {
            if (deep(t) > 3) {
                s = before;
                return false;
            }
        }
        undone.add(before);
        if (undone.size() > 6) {
            undone.remove(0);
        }
        write(thing, 0);
        return true;
    }

    int take(int holder, int slot) {
        if (slot < 0 || slot >= slots(holder) || inSlot(holder, slot) < 0 || holderOut(holder)) {
            return -1;
        }
        act();
        int t = inSlot(holder, slot);
        s.things.get(t).holder = -1;
        s.things.get(t).slot = -1;
        write(t, 1);
        return t;
    }

    int alter(int thing, int actor) {
        if (!isThing(thing) || trunk(thing) || out(thing) || (actor != -1 && !isActor(actor))) {
            return -1;
        }
        if (actor != -1 && fits(thing, actor) == 0) {
            return -1;
        }
        Thing t = s.things.get(thing);
        int[] to = actor == -1 ? t.made : s.actors.get(actor);
        int cost = costTo(thing, to);
        act();
        for (int m = 0; m < 5; m++) {
            if (t.made[m] > 0 && to[m] > 0) {
                t.now[m] = to[m];
            }
        }
        s.purse -= cost;
        write(thing, 2);
        return cost;
    }

    boolean care(int thing, boolean mend) {
        if (!isThing(thing) || out(thing) || (mend && s.things.get(thing).torn == 0)) {
            return false;
        }
        act();
        Thing t = s.things.get(thing);
        if (mend) {
            s.purse -= mendCost(t, t.torn);
            t.torn--;
        } else {
            t.dirt = 0;
        }
        write(thing, mend ? 4 : 3);
        return true;
    }

    int hire(int thing, int days, int deposit) {
        if (!isThing(thing) || out(thing) || days < 1 || days > 99 || deposit < 0 || deposit > 9999) {
            return -1;
        }
        act();
        Thing t = s.things.get(thing);
        t.holder = 100;
        t.slot = -1;
        t.due = s.day + days;
        t.deposit = deposit;
        s.purse += deposit;
        write(thing, 5);
        return t.due;
    }

    int back(int thing, int damage) {
        if (!isThing(thing) || s.things.get(thing).holder != 100 || damage < 0 || damage > 9) {
            return -1;
        }
        act();
        Thing t = s.things.get(thing);
        int stays = 10 * damage + (s.day > t.due ? 5 * (s.day - t.due) : 0);
        int paid = stays > t.deposit ? 0 : t.deposit - stays;
        t.holder = -1;
        t.due = -1;
        t.torn = Math.min(9, t.torn + damage);
        s.purse -= paid;
        write(thing, 6);
        return paid;
    }

    int days(int n) {
        if (n < 1 || n > 60 || s.day + n > 9999) {
            return -1;
        }
        int more = 0;
        for (int i = 0; i < n; i++) {
            act();
            for (int k = 0; k < s.things.size(); k++) {
                if (out(k)) {
                    Thing t = s.things.get(k);
                    int dirt = ask(1, "dirt", about(t), 0, 9);
                    int tear = ask(1, "tear", about(t), 0, 1000);
                    t.worn = Math.min(999, t.worn + 1);
                    t.dirt = Math.min(9, t.dirt + dirt);
                    if (tear > 0) {
                        s.draws = s.draws * 1664525 + 1013904223;
                        long drawn = (((long) s.draws & 0xffffffffL) >> 8) % 1000;
                        if (drawn < tear && t.torn < 9) {
                            t.torn++;
                            more++;
                        }
                    }
                }
            }
            s.day++;
        }
        return more;
    }

    boolean undo() {
        if (undone.isEmpty()) {
            return false;
        }
        State was = undone.remove(undone.size() - 1);
        was.laws = s.laws;
        was.minutes = s.minutes;
        was.wears = s.wears;
        was.wishes = s.wishes;
        s = was;
        return true;
    }

    boolean image(boolean taken) {
        if (taken) {
            image = s.copy();
            return true;
        }
        if (image == null) {
            return false;
        }
        s = image.copy();
        undone.clear();
        return true;
    }

    // ---- texts

    int feed(int a, int b, int c, int d, int e) {
        if (tape.length() > 380) {
            return -1;
        }
        for (int n : new int[] {a, b, c, d, e}) {
            tape.append((char) (n >> 24 & 255)).append((char) (n >> 16 & 255));
            tape.append((char) (n >> 8 & 255)).append((char) (n & 255));
        }
        return tape.length();
    }

    boolean end(int n) {
        if (n < 0 || n > tape.length()) {
            return false;
        }
        tape.setLength(n);
        return true;
    }

    int text(int k) {
        fault = 0;
        place = -1;
        ModelReader reader = new ModelReader(tape.toString(), s.actors.size());
        tape.setLength(0);
        if (k < 0 || k > 2) {
            return -1;
        }
        try {
            if (k < 2) {
                s.laws.set(k, reader.law(k == 0 ? List.of("cost", "mend") : List.of("tear", "dirt", "change")));
                return s.laws.get(k).size();
            }
            reader.scenes();
            s.minutes = reader.minutes;
            s.wears = reader.wears;
            return s.minutes.size();
        } catch (ModelReader.Fault f) {
            fault = f.number;
            place = f.place;
            return -1;
        }
    }

    int fault(int what) {
        return what == 0 ? fault : what == 1 ? place : -1;
    }

    // ---- laws asked

    private Facts about(Thing t) {
        return new Facts().with("by", 0).with("out", 0).with("measure", 0).with("kind", t.kind).with("lets", t.lets)
                .with("torn", t.torn).with("worn", t.worn).with("dirt", t.dirt).with("next", 0);
    }

    private int ask(int law, String word, Facts facts, int otherwise, int most) {
        for (Line line : s.laws.get(law)) {
            if (line.word().equals(word) && line.b().test(facts)) {
                int v = line.e().applyAsInt(facts);
                return v < 0 ? 0 : v > most ? most : v;
            }
        }
        return otherwise;
    }

    private int mendCost(Thing t, int torn) {
        return ask(0, "mend", about(t).with("torn", torn), 5, 9999);
    }

    private int change(int thing, int next) {
        return ask(1, "change", about(s.things.get(thing)).with("next", next), 3, 999);
    }

    private int costTo(int thing, int[] to) {
        Thing t = s.things.get(thing);
        int cost = 0;
        for (int m = 0; m < 5; m++) {
            if (t.made[m] > 0 && to[m] > 0 && t.now[m] != to[m]) {
                int by = Math.abs(to[m] - t.now[m]);
                Facts facts = about(t).with("by", by).with("out", to[m] > t.now[m] ? 1 : 0).with("measure", m);
                cost += ask(0, "cost", facts, by, 9999);
            }
        }
        return cost;
    }

    // ---- what is

    int of(int thing, int what) {
        if (!isThing(thing) || what < 0 || what > 10) {
            return -2;
        }
        Thing t = s.things.get(thing);
        return new int[] {t.kind, t.lets, t.dirt, t.torn, t.worn, t.holder, t.slot, t.due, out(thing) ? 1 : 0,
            allIn(10 + thing).size(), deep(thing)}[what];
    }

    int at(int thing, int m, int what) {
        if (!isThing(thing) || trunk(thing) || m < 0 || m > 4 || what < 0 || what > 1) {
            return -1;
        }
        return (what == 0 ? s.things.get(thing).made : s.things.get(thing).now)[m];
    }

    int body(int actor, int m) {
        return !isActor(actor) || m < 0 || m > 4 ? -1 : s.actors.get(actor)[m];
    }

    int slot(int holder, int slot) {
        return slot < 0 || slot >= slots(holder) ? -2 : inSlot(holder, slot);
    }

    int book(int i, int what) {
        if (i < 0 || i >= s.book.size() || what < 0 || what > 3) {
            return -1000000;
        }
        Entry e = s.book.get(i);
        return what == 0 ? e.day() : what == 1 ? e.thing() : what == 2 ? e.what() : e.purse();
    }

    int wear(int i, int what) {
        if (i < 0 || i >= s.wears.size() || what < 0 || what > 2) {
            return -1;
        }
        Wear w = s.wears.get(i);
        return what == 0 ? w.scene() : what == 1 ? w.actor() : w.kind();
    }

    int look(int what) {
        if (what >= 20 && what < 20 + s.racks.size()) {
            return s.racks.get(what - 20);
        }
        if (what >= 30 && what < 30 + s.minutes.size()) {
            return s.minutes.get(what - 30);
        }
        int late = 0;
        for (int t = 0; t < s.things.size(); t++) {
            late |= s.things.get(t).holder == 100 && s.things.get(t).due < s.day ? 1 << t : 0;
        }
        int[] all = {s.things.size(), s.actors.size(), s.racks.size(), s.day, s.purse, s.book.size(), s.draws,
            s.laws.get(0).size(), s.laws.get(1).size(), s.minutes.size(), s.wears.size(), undone.size(), late,
            s.wishes.size()};
        return what >= 0 && what < all.length ? all[what] : -1000000;
    }

    // ---- thought

    int fits(int thing, int actor) {
        if (!isThing(thing) || trunk(thing) || !isActor(actor)) {
            return -1;
        }
        Thing t = s.things.get(thing);
        int[] a = s.actors.get(actor);
        int answer = 1;
        for (int m = 0; m < 5; m++) {
            if (t.made[m] > 0 && a[m] > 0 && Math.abs(t.made[m] - a[m]) > t.lets) {
                return 0;
            }
            if (t.made[m] > 0 && a[m] == 0) {
                answer = 2;
            }
        }
        return answer;
    }

    int cost(int thing, int actor) {
        return fits(thing, actor) < 1 ? -1 : costTo(thing, s.actors.get(actor));
    }

    int suits(int thing, int kind) {
        if (!isThing(thing) || kind < 0 || kind > 5) {
            return -1;
        }
        int own = s.things.get(thing).kind;
        return own <= 2 ? (kind <= own ? 1 : 0) : own == kind ? 1 : 0;
    }

    int best(int actor, int kind) {
        int best = -1;
        for (int t = s.things.size() - 1; t >= 0; t--) {
            if (suits(t, kind) == 1 && free(t) && fits(t, actor) == 1
                    && (best < 0 || cost(t, actor) <= cost(best, actor))) {
                best = t;
            }
        }
        return best;
    }

    int dresses(int things) {
        if (things < 0 || things >= 1 << s.things.size()) {
            return -1;
        }
        int set = 0;
        for (int a = 0; a < s.actors.size(); a++) {
            for (int t = 0; t < s.things.size(); t++) {
                if ((things & 1 << t) != 0 && free(t) && fits(t, a) == 1) {
                    set |= 1 << a;
                }
            }
        }
        return set;
    }

    int holds(int holder, int kind) {
        if (slots(holder) == 0 || kind < 0 || kind > 5) {
            return -1;
        }
        int count = 0;
        for (int t : allIn(holder)) {
            count += s.things.get(t).kind == kind ? 1 : 0;
        }
        return count;
    }

    int path(int thing, int what) {
        if (!isThing(thing) || what < 0 || what > 1) {
            return -2;
        }
        int holder = s.things.get(thing).holder;
        int trunks = 0;
        while (holder >= 10 && holder < 100) {
            trunks++;
            holder = s.things.get(holder - 10).holder;
        }
        return what == 1 ? trunks : holder == 100 ? -1 : holder;
    }

    int tour(int what) {
        if (what < 0 || what > 1) {
            return -1;
        }
        int best = 0;
        for (int set = 0; set < 1 << s.things.size(); set++) {
            boolean right = Integer.bitCount(set) <= 4;
            for (int t = 0; t < s.things.size(); t++) {
                right &= (set & 1 << t) == 0 || (!trunk(t) && free(t));
            }
            if (right) {
                int more = Integer.bitCount(dresses(set)) - Integer.bitCount(dresses(best));
                if (more > 0 || (more == 0 && Integer.bitCount(set) < Integer.bitCount(best))) {
                    best = set;
                }
            }
        }
        return what == 0 ? Integer.bitCount(dresses(best)) : best;
    }

    int alone(int thing) {
        if (!isThing(thing) || trunk(thing)) {
            return -1;
        }
        int all = (1 << s.things.size()) - 1;
        return dresses(1 << thing) & ~dresses(all & ~(1 << thing));
    }

    int mends(int sum, int what) {
        if (sum < 0 || sum > 99999 || what < 0 || what > 2) {
            return -1;
        }
        List<int[]> torn = new ArrayList<>();
        for (int k = 0; k < s.things.size(); k++) {
            Thing t = s.things.get(k);
            if (t.torn > 0 && free(k)) {
                int cost = 0;
                for (int n = 1; n <= t.torn; n++) {
                    cost += mendCost(t, n);
                }
                torn.add(new int[] {cost, k});
            }
        }
        torn.sort((a, b) -> a[0] != b[0] ? a[0] - b[0] : a[1] - b[1]);
        int count = 0;
        int set = 0;
        int paid = 0;
        for (int[] one : torn) {
            if (paid + one[0] > sum) {
                break;
            }
            count++;
            set |= 1 << one[1];
            paid += one[0];
        }
        return new int[] {count, set, paid}[what];
    }

    int earns(int what) {
        if (what < 0 || what > 1) {
            return -1;
        }
        int most = 0;
        int best = 0;
        for (int set = 0; set < 1 << s.wishes.size(); set++) {
            int sum = 0;
            boolean right = true;
            Map<Integer, Integer> taken = new HashMap<>();
            for (int i = 0; i < s.wishes.size(); i++) {
                if ((set & 1 << i) != 0) {
                    Wish w = s.wishes.get(i);
                    sum += w.pays();
                    for (int day = w.day(); day < w.day() + w.n(); day++) {
                        right &= taken.put(w.thing() * 100000 + day, 1) == null;
                    }
                }
            }
            if (right && sum > most) {
                most = sum;
                best = set;
            }
        }
        return what == 0 ? most : best;
    }

    int share(int n, int i) {
        if (n < 1 || n > 8 || i < 0 || i >= n) {
            return -1;
        }
        return s.purse <= 0 ? 0 : (int) (((long) s.purse + n - 1 - i) / n);
    }

    // ---- the plan

    private boolean couldBe(int i, int t) {
        Wear w = s.wears.get(i);
        return suits(t, w.kind()) == 1 && free(t) && s.things.get(t).torn < 5 && fits(t, w.actor()) > 0;
    }

    private boolean isPlan(int[] plan) {
        for (int i = 0; i < plan.length; i++) {
            if (!couldBe(i, plan[i])) {
                return false;
            }
            for (int j = 0; j < plan.length; j++) {
                Wear a = s.wears.get(i);
                Wear b = s.wears.get(j);
                if (i != j && a.scene() == b.scene() && plan[i] == plan[j]) {
                    return false;
                }
                if (b.scene() == a.scene() + 1) {
                    int minutes = s.minutes.get(a.scene());
                    if (a.actor() == b.actor() && plan[i] != plan[j]
                            && minutes < change(plan[i], s.things.get(plan[j]).kind)) {
                        return false;
                    }
                    if (a.actor() != b.actor() && plan[i] == plan[j]
                            && minutes < 2 * change(plan[i], s.things.get(plan[i]).kind)) {
                        return false;
                    }
                }
            }
        }
        return true;
    }

    private int planCost(int[] plan) {
        int sum = 0;
        for (int i = 0; i < plan.length; i++) {
            sum += cost(plan[i], s.wears.get(i).actor());
        }
        return sum;
    }

    private int[] found;
    private int foundCost;

    /** How many assignments there are to try: the random runs ask for no plan where they are too many. */
    long planSize() {
        long size = 1;
        for (int i = 0; i < s.wears.size(); i++) {
            int count = 0;
            for (int t = 0; t < s.things.size(); t++) {
                count += couldBe(i, t) ? 1 : 0;
            }
            size *= count;
        }
        return size;
    }

    /** All plans in their order, wear but not having the thing not; found is null if there is none. */
    private void tryAll(int[] plan, int i, int wear, int not) {
        if (i == plan.length) {
            if ((found == null || planCost(plan) < foundCost) && isPlan(plan)) {
                found = plan.clone();
                foundCost = planCost(plan);
            }
            return;
        }
        for (int t = 0; t < s.things.size(); t++) {
            if (couldBe(i, t) && (i != wear || t != not)) {
                plan[i] = t;
                tryAll(plan, i + 1, wear, not);
            }
        }
    }

    private int[] findPlan(int wear, int not) {
        found = null;
        tryAll(new int[s.wears.size()], 0, wear, not);
        return found;
    }

    int plan(int what) {
        int n = s.wears.size();
        if (what >= 20 && what <= 20 + n) {
            int sum = 0;
            for (int i = what - 20; i < n; i++) {
                int least = -1;
                for (int t = 0; t < s.things.size(); t++) {
                    if (couldBe(i, t)) {
                        int cost = cost(t, s.wears.get(i).actor());
                        least = least < 0 ? cost : Math.min(least, cost);
                    }
                }
                if (least < 0) {
                    return -1;
                }
                sum += least;
            }
            return sum;
        }
        int[] plan = findPlan(-1, -1);
        if (plan == null) {
            return -1;
        }
        if (what == 0) {
            return planCost(plan);
        }
        if (what == 1) {
            int count = 0;
            for (int i = 0; i < n; i++) {
                for (int j = 0; j < n; j++) {
                    count += s.wears.get(j).scene() == s.wears.get(i).scene() + 1
                            && s.wears.get(i).actor() == s.wears.get(j).actor() && plan[i] != plan[j] ? 1 : 0;
                }
            }
            return count;
        }
        if (what >= 10 && what < 10 + n) {
            return plan[what - 10];
        }
        if (what >= 30 && what < 30 + n) {
            int set = 0;
            for (int t = 0; t < s.things.size(); t++) {
                int[] other = plan.clone();
                other[what - 30] = t;
                set |= t != plan[what - 30] && isPlan(other) ? 1 << t : 0;
            }
            return set;
        }
        if (what >= 40 && what < 40 + n) {
            int[] other = findPlan(what - 40, plan[what - 40]);
            return other == null ? -1 : planCost(other);
        }
        if (what >= 50 && what < 50 + s.things.size()) {
            int set = 0;
            for (int i = 0; i < n; i++) {
                set |= plan[i] == what - 50 ? 1 << i : 0;
            }
            return set;
        }
        return -1;
    }

    int swaps(int what) {
        int[] plan = findPlan(-1, -1);
        if (plan == null || what < 0 || what > 3) {
            return -1;
        }
        int[] answer = {0, -1, -1, -1};
        for (int i = 0; i < plan.length; i++) {
            for (int j = i + 1; j < plan.length; j++) {
                int[] other = plan.clone();
                other[i] = plan[j];
                other[j] = plan[i];
                if (plan[i] != plan[j] && isPlan(other)) {
                    if (answer[0] == 0) {
                        answer[1] = i;
                        answer[2] = j;
                        answer[3] = planCost(other);
                    }
                    answer[0]++;
                }
            }
        }
        return answer[what];
    }
}
