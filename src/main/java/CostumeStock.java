/**
 * A theatre's costume stock: where things hang, whom they fit and how dear, what is out on hire,
 * and, in thought, the plan of least cost for all scenes.
 *
 * No call makes an object: every row is made with the object and used again.
 */
public final class CostumeStock {
    public static final int NONE = -1;

    private static final int MOST_THINGS = 16;
    private static final int MOST_ACTORS = 6;
    private static final int MOST_RACKS = 4;
    private static final int MOST_SLOTS = 8;
    private static final int TRUNK_SLOTS = 4;
    private static final int DEEPEST = 3;
    private static final int MEASURES = 5;
    private static final int MOST_MEASURE = 99;
    private static final int MOST_LETS = 20;
    private static final int MOST_DIRT = 9;
    private static final int MOST_TORN = 9;
    private static final int MOST_WORN = 999;
    private static final int MOST_DAY = 9999;
    private static final int MOST_MONEY = 9999;
    private static final int MOST_SPAN = 99;
    private static final int MOST_SHARES = 8;
    private static final int MOST_WISHES = 10;
    private static final int MOST_SUM = 99999;
    private static final int TOO_TORN = 5;
    private static final int TOUR_SIZE = 4;
    /** Dearer than any plan: six wears of five measures at 9999 each are less. */
    private static final int TOO_DEAR = 1000000;

    private static final int COAT = 1;
    private static final int UNIFORM = 2;
    private static final int TRUNK = 5;

    /** Holders from here on are trunks: 10 and the thing's number. */
    private static final int FIRST_TRUNK = 10;
    private static final int OUT = 100;

    private static final int OPEN = 2;
    private static final int NO_SUCH = NONE - 1;
    private static final int NO_LINE = NONE - 999999;

    private static final int BOOK_LINES = 120;
    private static final int BOOK_ROW = 4;
    private static final int WISH_ROW = 4;
    private static final int WAS_PUT = 0;
    private static final int WAS_TAKEN = 1;
    private static final int WAS_ALTERED = 2;
    private static final int WAS_WASHED = 3;
    private static final int WAS_MENDED = 4;
    private static final int WAS_HIRED = 5;
    private static final int WAS_BACK = 6;

    private static final int MOST_TAPE = 400;
    private static final int MOST_LINES = 16;
    private static final int MOST_SCENES = 6;
    private static final int MOST_WEARS = 6;
    private static final int MOST_MINUTES = 99;
    private static final int MOST_OPEN = 8;
    private static final int MOST_DIGITS = 4;

    private static final int FAULT_STANDS = 1;
    private static final int FAULT_NUMBER = 2;
    private static final int FAULT_MANY = 3;

    private static final String SIGNS = ";+-*/()<=>";
    /** A keyword's token is FIRST_WORD and how many words stand before it here. */
    private static final String KEYWORDS =
            "cost mend tear dirt change when or and not by out measure kind lets torn worn next scene wear dress coat uniform mask set ";

    private static final int TOKEN_END = 0;
    private static final int TOKEN_BAD = 1;
    private static final int TOKEN_NUMBER = 2;
    private static final int FIRST_WORD = 200;
    private static final int WORD_COST = 200;
    private static final int WORD_MEND = 201;
    private static final int WORD_TEAR = 202;
    private static final int WORD_DIRT = 203;
    private static final int WORD_CHANGE = 204;
    private static final int WORD_WHEN = 205;
    private static final int WORD_OR = 206;
    private static final int WORD_AND = 207;
    private static final int WORD_NOT = 208;
    private static final int WORD_BY = 209;
    private static final int WORD_NEXT = 216;
    private static final int WORD_SCENE = 217;
    private static final int WORD_WEAR = 218;
    private static final int WORD_DRESS = 219;
    private static final int WORD_SET = 223;

    /** What a law is asked about, in the order of the keywords by .. next, then dirt. */
    private static final int FACT_BY = 0;
    private static final int FACT_OUT = 1;
    private static final int FACT_MEASURE = 2;
    private static final int FACT_KIND = 3;
    private static final int FACT_LETS = 4;
    private static final int FACT_TORN = 5;
    private static final int FACT_WORN = 6;
    private static final int FACT_NEXT = 7;
    private static final int FACT_DIRT = 8;
    private static final int FACTS = 9;

    private final House house = new House();
    private final House picture = new House();
    private final Kept kept = new Kept();
    private final Reader reader = new Reader();
    private final Planner planner = new Planner();
    private final Earnings earnings = new Earnings();
    private final Wardrobe wardrobe = new Wardrobe();
    private boolean imaged;

    public CostumeStock() {
        imaged = false;
    }

    // ---- what is told

    public int state(int v) {
        int was = house.stock.draws;
        house.stock.draws = v;
        forgetActs();
        return was;
    }

    public int thing(int kind, int lets) {
        if (!isKind(kind) || lets < 0 || lets > MOST_LETS || house.things >= MOST_THINGS) {
            return NONE;
        }
        int thing = house.things;
        house.kind[thing] = kind;
        house.lets[thing] = lets;
        house.things++;
        forgetActs();
        return thing;
    }

    public int actor() {
        if (house.actors >= MOST_ACTORS) {
            return NONE;
        }
        house.actors++;
        forgetActs();
        return house.actors - 1;
    }

    public int rack(int slots) {
        if (slots < 1 || slots > MOST_SLOTS || house.racks >= MOST_RACKS) {
            return NONE;
        }
        house.slots[house.racks] = slots;
        house.racks++;
        forgetActs();
        return house.racks - 1;
    }

    public boolean measure(boolean actor, int who, int measure, int v) {
        boolean there = actor ? house.isActor(who) : house.isWearable(who);
        if (!there || !isMeasure(measure) || v < 0 || v > MOST_MEASURE) {
            return false;
        }
        int at = who * MEASURES + measure;
        if (actor) {
            house.body[at] = v;
        } else {
            house.made[at] = v;
            house.stock.now[at] = v;
        }
        forgetActs();
        return true;
    }

    public boolean set(int what, int thing, int v) {
        if (what == 4) {
            house.stock.purse = v;
            forgetActs();
            return true;
        }
        if (!house.isThing(thing) || v < 0 || v > mostToSet(what)) {
            return false;
        }
        rowToSet(what)[thing] = v;
        forgetActs();
        return true;
    }

    /** NONE for another what, so that no number is small enough for it. */
    private static int mostToSet(int what) {
        switch (what) {
            case 0: return MOST_DIRT;
            case 1: return MOST_TORN;
            case 2: return MOST_WORN;
            case 3: return MOST_LETS;
            default: return NONE;
        }
    }

    private int[] rowToSet(int what) {
        switch (what) {
            case 0: return house.stock.dirt;
            case 1: return house.stock.torn;
            case 2: return house.stock.worn;
            default: return house.lets;
        }
    }

    public int wish(int thing, int day, int n, int pays) {
        if (thing == NONE) {
            house.wished = 0;
            return 0;
        }
        boolean right = house.isThing(thing) && day >= 0 && day <= MOST_DAY
                && n >= 1 && n <= MOST_SPAN && pays >= 0 && pays <= MOST_MONEY;
        if (!right || house.wished >= MOST_WISHES) {
            return NONE;
        }
        int at = house.wished * WISH_ROW;
        house.wishes[at] = thing;
        house.wishes[at + 1] = day;
        house.wishes[at + 2] = n;
        house.wishes[at + 3] = pays;
        house.wished++;
        return house.wished;
    }

    // ---- the texts

    public int feed(int a, int b, int c, int d, int e) {
        if (!reader.hasRoom()) {
            return NONE;
        }
        reader.append(a);
        reader.append(b);
        reader.append(c);
        reader.append(d);
        reader.append(e);
        return reader.size;
    }

    public boolean end(int n) {
        if (n < 0 || n > reader.size) {
            return false;
        }
        reader.size = n;
        return true;
    }

    public int text(int k) {
        boolean read = reader.start(k) && (k == 2 ? reader.readScenes(house.actors) : reader.readLaw(k == 0));
        reader.size = 0;
        if (!read) {
            return NONE;
        }
        planner.forgetPlan();
        if (k == 2) {
            house.script.copyFrom(reader.script);
            return house.script.scenes;
        }
        Law law = k == 0 ? house.altering : house.daily;
        law.copyFrom(reader.law);
        return law.lines;
    }

    public int fault(int what) {
        switch (what) {
            case 0: return reader.fault;
            case 1: return reader.faultPlace;
            default: return NONE;
        }
    }

    // ---- the acts and the days

    public boolean put(int thing, int holder, int slot) {
        if (!house.isThing(thing) || house.stock.holder[thing] != NONE || !house.canOpen(holder, slot)
                || house.inSlot(holder, slot) != NONE || !house.hasDepthFor(thing, holder)) {
            return false;
        }
        startAct();
        house.stock.holder[thing] = holder;
        house.stock.slot[thing] = slot;
        house.write(thing, WAS_PUT);
        return true;
    }

    public int take(int holder, int slot) {
        if (!house.canOpen(holder, slot)) {
            return NONE;
        }
        int thing = house.inSlot(holder, slot);
        if (thing == NONE) {
            return NONE;
        }
        startAct();
        house.moveAside(thing);
        house.write(thing, WAS_TAKEN);
        return thing;
    }

    public int alter(int thing, int actor) {
        boolean goesBack = actor == NONE;
        if (!house.isWearable(thing) || house.isAway(thing)) {
            return NONE;
        }
        if (!goesBack && (!house.isActor(actor) || house.fit(thing, actor) == 0)) {
            return NONE;
        }
        int[] wanted = goesBack ? house.made : house.body;
        int first = (goesBack ? thing : actor) * MEASURES;
        int price = house.price(thing, wanted, first);
        startAct();
        house.sew(thing, wanted, first);
        house.stock.purse -= price;
        house.write(thing, WAS_ALTERED);
        return price;
    }

    public boolean care(int thing, boolean mend) {
        if (!house.isThing(thing) || house.isAway(thing) || (mend && house.stock.torn[thing] == 0)) {
            return false;
        }
        startAct();
        if (mend) {
            house.stock.purse -= house.mendPrice(thing, house.stock.torn[thing]);
            house.stock.torn[thing]--;
            house.write(thing, WAS_MENDED);
        } else {
            house.stock.dirt[thing] = 0;
            house.write(thing, WAS_WASHED);
        }
        return true;
    }

    public int hire(int thing, int days, int deposit) {
        if (!house.isThing(thing) || house.isAway(thing) || days < 1 || days > MOST_SPAN
                || deposit < 0 || deposit > MOST_MONEY) {
            return NONE;
        }
        startAct();
        Stock stock = house.stock;
        stock.holder[thing] = OUT;
        stock.slot[thing] = NONE;
        stock.due[thing] = stock.day + days;
        stock.deposit[thing] = deposit;
        stock.purse += deposit;
        house.write(thing, WAS_HIRED);
        return stock.due[thing];
    }

    public int back(int thing, int damage) {
        if (!house.isThing(thing) || house.stock.holder[thing] != OUT || damage < 0 || damage > MOST_TORN) {
            return NONE;
        }
        startAct();
        Stock stock = house.stock;
        int late = Math.max(0, stock.day - stock.due[thing]);
        int stays = Math.min(stock.deposit[thing], 10 * damage + 5 * late);
        int paid = stock.deposit[thing] - stays;
        stock.torn[thing] = Math.min(MOST_TORN, stock.torn[thing] + damage);
        stock.purse -= paid;
        house.moveAside(thing);
        house.write(thing, WAS_BACK);
        return paid;
    }

    public int days(int n) {
        if (n < 1 || n > 60 || house.stock.day + n > MOST_DAY) {
            return NONE;
        }
        int torn = 0;
        for (int i = 0; i < n; i++) {
            startAct();
            torn += house.passDay();
        }
        return torn;
    }

    public boolean undo() {
        if (!kept.giveBack(house.stock)) {
            return false;
        }
        planner.forgetPlan();
        return true;
    }

    public boolean image(boolean taken) {
        if (taken) {
            picture.copyFrom(house);
            imaged = true;
            return true;
        }
        if (!imaged) {
            return false;
        }
        house.copyFrom(picture);
        forgetActs();
        return true;
    }

    /** Called ahead of every act and day that will be done. */
    private void startAct() {
        kept.keep(house.stock);
        planner.forgetPlan();
    }

    private void forgetActs() {
        kept.clear();
        planner.forgetPlan();
    }

    // ---- what is

    public int of(int thing, int what) {
        if (!house.isThing(thing)) {
            return NO_SUCH;
        }
        Stock stock = house.stock;
        switch (what) {
            case 0: return house.kind[thing];
            case 1: return house.lets[thing];
            case 2: return stock.dirt[thing];
            case 3: return stock.torn[thing];
            case 4: return stock.worn[thing];
            case 5: return stock.holder[thing];
            case 6: return stock.slot[thing];
            case 7: return stock.due[thing];
            case 8: return house.isAway(thing) ? 1 : 0;
            case 9: return house.countIn(FIRST_TRUNK + thing, NONE);
            case 10: return house.depth(thing);
            default: return NO_SUCH;
        }
    }

    public int at(int thing, int measure, int what) {
        if (!house.isWearable(thing) || !isMeasure(measure)) {
            return NONE;
        }
        int at = thing * MEASURES + measure;
        switch (what) {
            case 0: return house.made[at];
            case 1: return house.stock.now[at];
            default: return NONE;
        }
    }

    public int body(int actor, int measure) {
        return house.isActor(actor) && isMeasure(measure) ? house.body[actor * MEASURES + measure] : NONE;
    }

    public int slot(int holder, int slot) {
        return house.isSlot(holder, slot) ? house.inSlot(holder, slot) : NO_SUCH;
    }

    public int book(int i, int what) {
        if (i < 0 || i >= house.stock.lines || what < 0 || what >= BOOK_ROW) {
            return NO_LINE;
        }
        return house.book[i * BOOK_ROW + what];
    }

    public int look(int what) {
        Stock stock = house.stock;
        switch (what) {
            case 0: return house.things;
            case 1: return house.actors;
            case 2: return house.racks;
            case 3: return stock.day;
            case 4: return stock.purse;
            case 5: return stock.lines;
            case 6: return stock.draws;
            case 7: return house.altering.lines;
            case 8: return house.daily.lines;
            case 9: return house.script.scenes;
            case 10: return house.script.wears;
            case 11: return kept.count;
            case 12: return house.late();
            case 13: return house.wished;
            default: return lookInRow(what);
        }
    }

    private int lookInRow(int what) {
        if (what >= 20 && what < 20 + house.racks) {
            return house.slots[what - 20];
        }
        if (what >= 30 && what < 30 + house.script.scenes) {
            return house.script.minutes[what - 30];
        }
        return NO_LINE;
    }

    public int wear(int i, int what) {
        if (i < 0 || i >= house.script.wears) {
            return NONE;
        }
        switch (what) {
            case 0: return house.script.scene[i];
            case 1: return house.script.actor[i];
            case 2: return house.script.kind[i];
            default: return NONE;
        }
    }

    // ---- in thought: things and actors

    public int fits(int thing, int actor) {
        return house.isWearable(thing) && house.isActor(actor) ? house.fit(thing, actor) : NONE;
    }

    public int cost(int thing, int actor) {
        if (!house.isWearable(thing) || !house.isActor(actor) || house.fit(thing, actor) == 0) {
            return NONE;
        }
        return house.price(thing, house.body, actor * MEASURES);
    }

    public int suits(int thing, int kind) {
        if (!house.isThing(thing) || !isKind(kind)) {
            return NONE;
        }
        return house.isOfKind(thing, kind) ? 1 : 0;
    }

    public int best(int actor, int kind) {
        if (!house.isActor(actor) || !isKind(kind)) {
            return NONE;
        }
        int best = NONE;
        int least = 0;
        for (int thing = 0; thing < house.things; thing++) {
            if (house.isOfKind(thing, kind) && house.clothes(thing, actor)) {
                int price = house.price(thing, house.body, actor * MEASURES);
                if (best == NONE || price < least) {
                    best = thing;
                    least = price;
                }
            }
        }
        return best;
    }

    public int dresses(int things) {
        if (things >>> house.things != 0) {
            return NONE;
        }
        int actors = 0;
        for (int thing = 0; thing < house.things; thing++) {
            if (has(things, thing)) {
                actors |= house.dressedBy(thing);
            }
        }
        return actors;
    }

    public int alone(int thing) {
        if (!house.isWearable(thing)) {
            return NONE;
        }
        int actors = house.dressedBy(thing);
        for (int other = 0; other < house.things; other++) {
            if (other != thing) {
                actors &= ~house.dressedBy(other);
            }
        }
        return actors;
    }

    public int tour(int what) {
        if (what != 0 && what != 1) {
            return NONE;
        }
        wardrobe.find(house);
        return what == 0 ? wardrobe.most : wardrobe.set;
    }

    public int holds(int holder, int kind) {
        return house.isHolder(holder) && isKind(kind) ? house.countIn(holder, kind) : NONE;
    }

    public int path(int thing, int what) {
        if (!house.isThing(thing)) {
            return NO_SUCH;
        }
        switch (what) {
            case 0: return house.rackAround(thing);
            case 1: return house.trunksAround(thing);
            default: return NO_SUCH;
        }
    }

    public int mends(int sum, int what) {
        if (sum < 0 || sum > MOST_SUM || what < 0 || what > 2) {
            return NONE;
        }
        house.priceMending();
        int count = 0;
        int set = 0;
        int paid = 0;
        for (int turn = 0; turn < house.things; turn++) {
            int thing = house.cheapestToMend(set);
            if (thing == NONE || paid + house.whole[thing] > sum) {
                break;
            }
            count++;
            set |= 1 << thing;
            paid += house.whole[thing];
        }
        return what == 0 ? count : what == 1 ? set : paid;
    }

    public int earns(int what) {
        if (what != 0 && what != 1) {
            return NONE;
        }
        earnings.find(house);
        return what == 0 ? earnings.most : earnings.set;
    }

    public int share(int n, int i) {
        if (n < 1 || n > MOST_SHARES || i < 0 || i >= n) {
            return NONE;
        }
        int purse = house.stock.purse;
        if (purse <= 0) {
            return 0;
        }
        return purse / n + (i < purse % n ? 1 : 0);
    }

    // ---- in thought: the plan

    public int plan(int what) {
        int wears = house.script.wears;
        planner.prepare(house);
        if (what >= 20 && what <= 20 + wears) {
            return planner.bound(what - 20);
        }
        if (!planner.found) {
            return NONE;
        }
        if (what >= 50 && what < 50 + house.things) {
            return planner.uses(what - 50);
        }
        if (what == 0) {
            return planner.planCost;
        }
        if (what == 1) {
            return planner.changes;
        }
        int i = Math.floorMod(what, 10);
        if (i >= wears) {
            return NONE;
        }
        switch (Math.floorDiv(what, 10)) {
            case 1: return planner.chosen[i];
            case 3: return planner.instead(i);
            case 4: return planner.otherwise(i);
            default: return NONE;
        }
    }

    public int swaps(int what) {
        planner.prepare(house);
        if (!planner.found || what < 0 || what > 3) {
            return NONE;
        }
        int wears = house.script.wears;
        int count = 0;
        int first = NONE;
        for (int i = 0; i < wears; i++) {
            for (int j = i + 1; j < wears; j++) {
                if (planner.canSwap(i, j)) {
                    count++;
                    first = first == NONE ? i * MOST_WEARS + j : first;
                }
            }
        }
        if (what == 0) {
            return count;
        }
        if (first == NONE) {
            return NONE;
        }
        int i = first / MOST_WEARS;
        int j = first % MOST_WEARS;
        return what == 1 ? i : what == 2 ? j : planner.swapCost(i, j);
    }

    // ---- small questions

    private static boolean isKind(int kind) {
        return kind >= 0 && kind <= TRUNK;
    }

    private static boolean isMeasure(int measure) {
        return measure >= 0 && measure < MEASURES;
    }

    private static boolean has(int set, int member) {
        return (set >>> member & 1) != 0;
    }

    private static void copyRow(int[] from, int[] to) {
        System.arraycopy(from, 0, to, 0, Math.min(from.length, to.length));
    }

    /** What acts and days change: going back to a copy of it undoes them. */
    private static final class Stock {
        final int[] dirt = new int[MOST_THINGS];
        final int[] torn = new int[MOST_THINGS];
        final int[] worn = new int[MOST_THINGS];
        /** NONE: aside; OUT: hired out itself. */
        final int[] holder = new int[MOST_THINGS];
        final int[] slot = new int[MOST_THINGS];
        final int[] due = new int[MOST_THINGS];
        final int[] deposit = new int[MOST_THINGS];
        final int[] now = new int[MOST_THINGS * MEASURES];
        int purse;
        int day;
        int draws;
        /** The book's lines behind these are no longer there: it is never written but at its end. */
        int lines;

        Stock() {
            for (int thing = 0; thing < MOST_THINGS; thing++) {
                holder[thing] = NONE;
                slot[thing] = NONE;
                due[thing] = NONE;
            }
        }

        void copyFrom(Stock from) {
            copyRow(from.dirt, dirt);
            copyRow(from.torn, torn);
            copyRow(from.worn, worn);
            copyRow(from.holder, holder);
            copyRow(from.slot, slot);
            copyRow(from.due, due);
            copyRow(from.deposit, deposit);
            copyRow(from.now, now);
            purse = from.purse;
            day = from.day;
            draws = from.draws;
            lines = from.lines;
        }
    }

    /** The latest acts and days, as the stock was ahead of each. */
    private static final class Kept {
        private static final int MOST = 6;
        final Stock[] stocks = new Stock[MOST];
        int next;
        int count;

        Kept() {
            for (int i = 0; i < MOST; i++) {
                stocks[i] = new Stock();
            }
        }

        void keep(Stock stock) {
            stocks[next].copyFrom(stock);
            next = (next + 1) % MOST;
            count = Math.min(MOST, count + 1);
        }

        boolean giveBack(Stock stock) {
            if (count == 0) {
                return false;
            }
            next = (next + MOST - 1) % MOST;
            count--;
            stock.copyFrom(stocks[next]);
            return true;
        }

        void clear() {
            count = 0;
        }
    }

    /** All that an image holds. */
    private static final class House {
        final Stock stock = new Stock();
        final int[] kind = new int[MOST_THINGS];
        final int[] lets = new int[MOST_THINGS];
        final int[] made = new int[MOST_THINGS * MEASURES];
        final int[] body = new int[MOST_ACTORS * MEASURES];
        final int[] slots = new int[MOST_RACKS];
        final int[] book = new int[BOOK_LINES * BOOK_ROW];
        final int[] wishes = new int[MOST_WISHES * WISH_ROW];
        final Law altering = new Law();
        final Law daily = new Law();
        final Script script = new Script();
        int things;
        int actors;
        int racks;
        int wished;
        /** Scratch: what a law is asked about. */
        final int[] facts = new int[FACTS];
        /** Scratch: what it costs to mend a thing until it is whole. */
        final int[] whole = new int[MOST_THINGS];

        void copyFrom(House from) {
            stock.copyFrom(from.stock);
            copyRow(from.kind, kind);
            copyRow(from.lets, lets);
            copyRow(from.made, made);
            copyRow(from.body, body);
            copyRow(from.slots, slots);
            copyRow(from.book, book);
            copyRow(from.wishes, wishes);
            altering.copyFrom(from.altering);
            daily.copyFrom(from.daily);
            script.copyFrom(from.script);
            things = from.things;
            actors = from.actors;
            racks = from.racks;
            wished = from.wished;
        }

        boolean isThing(int thing) {
            return thing >= 0 && thing < things;
        }

        boolean isActor(int actor) {
            return actor >= 0 && actor < actors;
        }

        boolean isTrunk(int thing) {
            return isThing(thing) && kind[thing] == TRUNK;
        }

        boolean isWearable(int thing) {
            return isThing(thing) && kind[thing] != TRUNK;
        }

        /** A uniform is a coat, too, and a coat a dress. */
        boolean isOfKind(int thing, int wanted) {
            int own = kind[thing];
            return own == wanted || (own == UNIFORM && wanted < UNIFORM) || (own == COAT && wanted < COAT);
        }

        // -- places

        boolean isHolder(int holder) {
            return holder >= FIRST_TRUNK ? isTrunk(holder - FIRST_TRUNK) : holder >= 0 && holder < racks;
        }

        boolean isSlot(int holder, int slot) {
            if (!isHolder(holder)) {
                return false;
            }
            int count = holder >= FIRST_TRUNK ? TRUNK_SLOTS : slots[holder];
            return slot >= 0 && slot < count;
        }

        /** A slot that there is, in a holder that is neither out nor in one that is. */
        boolean canOpen(int holder, int slot) {
            return isSlot(holder, slot) && (holder < FIRST_TRUNK || !isAway(holder - FIRST_TRUNK));
        }

        int inSlot(int holder, int slot) {
            for (int thing = 0; thing < things; thing++) {
                if (stock.holder[thing] == holder && stock.slot[thing] == slot) {
                    return thing;
                }
            }
            return NONE;
        }

        /** The trunk in which a thing is; NONE if it is in none. */
        int trunkOf(int thing) {
            int holder = stock.holder[thing];
            return holder >= FIRST_TRUNK && holder != OUT ? holder - FIRST_TRUNK : NONE;
        }

        /** The outermost trunk in which a thing is, or the thing itself. */
        int outermost(int thing) {
            int at = thing;
            for (int step = 0; step < MOST_THINGS && trunkOf(at) != NONE; step++) {
                at = trunkOf(at);
            }
            return at;
        }

        boolean isAway(int thing) {
            return stock.holder[outermost(thing)] == OUT;
        }

        int rackAround(int thing) {
            int holder = stock.holder[outermost(thing)];
            return holder == OUT ? NONE : holder;
        }

        int trunksAround(int thing) {
            int count = 0;
            int at = trunkOf(thing);
            while (at != NONE && count < MOST_THINGS) {
                count++;
                at = trunkOf(at);
            }
            return count;
        }

        boolean isIn(int thing, int holder) {
            int at = thing;
            for (int step = 0; step < MOST_THINGS && at != NONE; step++) {
                if (stock.holder[at] == holder) {
                    return true;
                }
                at = trunkOf(at);
            }
            return false;
        }

        /** Things of a kind (NONE: of any) in a holder at any depth. */
        int countIn(int holder, int wanted) {
            int count = 0;
            for (int thing = 0; thing < things; thing++) {
                if ((wanted == NONE || kind[thing] == wanted) && isIn(thing, holder)) {
                    count++;
                }
            }
            return count;
        }

        int depth(int thing) {
            if (!isTrunk(thing)) {
                return 0;
            }
            int deepest = 1;
            int own = trunksAround(thing);
            for (int other = 0; other < things; other++) {
                if (isTrunk(other) && isIn(other, FIRST_TRUNK + thing)) {
                    deepest = Math.max(deepest, 1 + trunksAround(other) - own);
                }
            }
            return deepest;
        }

        /** Whether a thing may go into a holder that there is: no trunk into itself, none deeper than 3. */
        boolean hasDepthFor(int thing, int holder) {
            if (!isTrunk(thing) || holder < FIRST_TRUNK) {
                return true;
            }
            int trunk = holder - FIRST_TRUNK;
            if (trunk == thing || isIn(trunk, FIRST_TRUNK + thing)) {
                return false;
            }
            return trunksAround(trunk) + 1 + depth(thing) <= DEEPEST;
        }

        void moveAside(int thing) {
            stock.holder[thing] = NONE;
            stock.slot[thing] = NONE;
            stock.due[thing] = NONE;
            stock.deposit[thing] = 0;
        }

        int late() {
            int set = 0;
            for (int thing = 0; thing < things; thing++) {
                if (stock.holder[thing] == OUT && stock.due[thing] < stock.day) {
                    set |= 1 << thing;
                }
            }
            return set;
        }

        // -- the book and the days

        void write(int thing, int what) {
            if (stock.lines >= BOOK_LINES) {
                return;
            }
            int at = stock.lines * BOOK_ROW;
            book[at] = stock.day;
            book[at + 1] = thing;
            book[at + 2] = what;
            book[at + 3] = stock.purse;
            stock.lines++;
        }

        /** How many things were torn more. */
        int passDay() {
            int more = 0;
            for (int thing = 0; thing < things; thing++) {
                if (isAway(thing) && useForDay(thing)) {
                    more++;
                }
            }
            stock.day++;
            return more;
        }

        private boolean useForDay(int thing) {
            askAbout(thing);
            int dirt = daily.tell(WORD_DIRT, facts, 0, MOST_DIRT);
            int tear = daily.tell(WORD_TEAR, facts, 0, 1000);
            stock.worn[thing] = Math.min(MOST_WORN, stock.worn[thing] + 1);
            stock.dirt[thing] = Math.min(MOST_DIRT, stock.dirt[thing] + dirt);
            if (tear <= 0 || draw(1000) >= tear || stock.torn[thing] >= MOST_TORN) {
                return false;
            }
            stock.torn[thing]++;
            return true;
        }

        private int draw(int m) {
            stock.draws = 1664525 * stock.draws + 1013904223;
            return m < 1 ? 0 : (stock.draws >>> 8) % m;
        }

        // -- the laws, asked

        private void askAbout(int thing) {
            facts[FACT_BY] = 0;
            facts[FACT_OUT] = 0;
            facts[FACT_MEASURE] = 0;
            facts[FACT_KIND] = kind[thing];
            facts[FACT_LETS] = lets[thing];
            facts[FACT_TORN] = stock.torn[thing];
            facts[FACT_WORN] = stock.worn[thing];
            facts[FACT_DIRT] = stock.dirt[thing];
            facts[FACT_NEXT] = 0;
        }

        /** What it costs to alter a thing to the measures that stand in a row from a place on. */
        int price(int thing, int[] wanted, int first) {
            int sum = 0;
            askAbout(thing);
            for (int measure = 0; measure < MEASURES; measure++) {
                int from = stock.now[thing * MEASURES + measure];
                int to = wanted[first + measure];
                if (from != 0 && to != 0 && from != to) {
                    int by = Math.abs(to - from);
                    facts[FACT_BY] = by;
                    facts[FACT_OUT] = to > from ? 1 : 0;
                    facts[FACT_MEASURE] = measure;
                    sum += altering.tell(WORD_COST, facts, by, MOST_MONEY);
                }
            }
            return sum;
        }

        void sew(int thing, int[] wanted, int first) {
            for (int measure = 0; measure < MEASURES; measure++) {
                int at = thing * MEASURES + measure;
                int to = wanted[first + measure];
                if (stock.now[at] != 0 && to != 0) {
                    stock.now[at] = to;
                }
            }
        }

        int mendPrice(int thing, int torn) {
            askAbout(thing);
            facts[FACT_TORN] = torn;
            return altering.tell(WORD_MEND, facts, 5, MOST_MONEY);
        }

        /** Tells in the scratch row what each torn thing at hand costs until it is whole, NONE for the others. */
        void priceMending() {
            for (int thing = 0; thing < things; thing++) {
                whole[thing] = NONE;
                if (stock.torn[thing] > 0 && !isAway(thing)) {
                    int sum = 0;
                    for (int torn = stock.torn[thing]; torn > 0; torn--) {
                        sum += mendPrice(thing, torn);
                    }
                    whole[thing] = sum;
                }
            }
        }

        /** Of the things priced and not in a set yet; NONE without one. */
        int cheapestToMend(int set) {
            int best = NONE;
            for (int thing = 0; thing < things; thing++) {
                if (whole[thing] != NONE && !has(set, thing) && (best == NONE || whole[thing] < whole[best])) {
                    best = thing;
                }
            }
            return best;
        }

        int changeMinutes(int thing, int next) {
            askAbout(thing);
            facts[FACT_NEXT] = next;
            return daily.tell(WORD_CHANGE, facts, 3, 999);
        }

        // -- who fits what

        int fit(int thing, int actor) {
            boolean open = false;
            for (int measure = 0; measure < MEASURES; measure++) {
                int own = made[thing * MEASURES + measure];
                int his = body[actor * MEASURES + measure];
                if (own != 0 && his != 0 && Math.abs(his - own) > lets[thing]) {
                    return 0;
                }
                open |= own != 0 && his == 0;
            }
            return open ? OPEN : 1;
        }

        /** A thing at hand that fits an actor, all his measures known. */
        boolean clothes(int thing, int actor) {
            return isWearable(thing) && !isAway(thing) && fit(thing, actor) == 1;
        }

        int dressedBy(int thing) {
            int set = 0;
            for (int actor = 0; actor < actors; actor++) {
                if (clothes(thing, actor)) {
                    set |= 1 << actor;
                }
            }
            return set;
        }
    }

    /** The few things that dress most actors. */
    private static final class Wardrobe {
        private final int[] dressed = new int[MOST_THINGS];
        private int things;
        private int size;
        int most;
        int set;

        void find(House house) {
            things = house.things;
            for (int thing = 0; thing < things; thing++) {
                dressed[thing] = house.dressedBy(thing);
            }
            most = 0;
            size = 0;
            set = 0;
            extend(0, 0, 0, 0);
        }

        /** Tries what was picked so far, then with one thing more from the first one on. */
        private void extend(int first, int picked, int pickedSet, int actors) {
            consider(picked, pickedSet, Integer.bitCount(actors));
            if (picked >= TOUR_SIZE) {
                return;
            }
            for (int thing = first; thing < things; thing++) {
                // What dresses nobody else (as a trunk, or what is out) is not in the smallest set.
                if ((dressed[thing] & ~actors) != 0) {
                    extend(thing + 1, picked + 1, pickedSet | 1 << thing, actors | dressed[thing]);
                }
            }
        }

        private void consider(int picked, int pickedSet, int count) {
            boolean better = count != most ? count > most
                    : picked != size ? picked < size : pickedSet < set;
            if (better) {
                most = count;
                size = picked;
                set = pickedSet;
            }
        }
    }

    /** The wishes that pay most together. */
    private static final class Earnings {
        /** Of each wish the wishes that it can't stand beside. */
        final int[] against = new int[MOST_WISHES];
        int most;
        int set;

        void find(House house) {
            for (int i = 0; i < house.wished; i++) {
                against[i] = 0;
                for (int j = 0; j < i; j++) {
                    if (clash(house.wishes, i * WISH_ROW, j * WISH_ROW)) {
                        against[i] |= 1 << j;
                    }
                }
            }
            most = 0;
            set = 0;
            for (int tried = 1; tried < 1 << house.wished; tried++) {
                int sum = worth(house, tried);
                if (sum > most) {
                    most = sum;
                    set = tried;
                }
            }
        }

        private static boolean clash(int[] wishes, int a, int b) {
            return wishes[a] == wishes[b]
                    && wishes[a + 1] < wishes[b + 1] + wishes[b + 2]
                    && wishes[b + 1] < wishes[a + 1] + wishes[a + 2];
        }

        /** NONE if two of them clash. */
        private int worth(House house, int tried) {
            int sum = 0;
            for (int i = 0; i < house.wished; i++) {
                if (has(tried, i)) {
                    if ((against[i] & tried) != 0) {
                        return NONE;
                    }
                    sum += house.wishes[i * WISH_ROW + 3];
                }
            }
            return sum;
        }
    }

    /** A law as lines of code that is worked off with a stack: no text is read again to ask it. */
    private static final class Law {
        private static final int MOST_CODE = 400;
        private static final int MOST_STACK = 32;
        /** 0 and above: a number; -1 .. -9: a fact; below: the token of what is done with the top of the stack. */
        final int[] code = new int[MOST_CODE];
        final int[] word = new int[MOST_LINES];
        final int[] from = new int[MOST_LINES];
        final int[] when = new int[MOST_LINES];
        final int[] until = new int[MOST_LINES];
        final int[] stack = new int[MOST_STACK];
        int lines;
        int size;

        void copyFrom(Law other) {
            copyRow(other.code, code);
            copyRow(other.word, word);
            copyRow(other.from, from);
            copyRow(other.when, when);
            copyRow(other.until, until);
            lines = other.lines;
            size = other.size;
        }

        void clear() {
            lines = 0;
            size = 0;
        }

        void emit(int op) {
            if (size < MOST_CODE) {
                code[size] = op;
                size++;
            }
        }

        void addLine(int lineWord, int start, int condition) {
            if (lines < MOST_LINES) {
                word[lines] = lineWord;
                from[lines] = start;
                when[lines] = condition;
                until[lines] = size;
                lines++;
            }
        }

        /** What the first line tells that has the word and holds, held to 0 .. most. */
        int tell(int asked, int[] facts, int otherwise, int most) {
            for (int i = 0; i < lines; i++) {
                if (word[i] == asked && (when[i] == until[i] || run(when[i], until[i], facts) != 0)) {
                    return Math.max(0, Math.min(most, run(from[i], when[i], facts)));
                }
            }
            return otherwise;
        }

        private int run(int start, int stop, int[] facts) {
            int top = 0;
            for (int i = start; i < stop && i < MOST_CODE; i++) {
                int op = code[i];
                if (op >= -FACTS) {
                    if (top >= MOST_STACK) {
                        return 0;
                    }
                    stack[top] = op >= 0 ? op : facts[-1 - op];
                    top++;
                } else if (op == -WORD_NOT) {
                    if (top < 1) {
                        return 0;
                    }
                    stack[top - 1] = stack[top - 1] == 0 ? 1 : 0;
                } else {
                    if (top < 2) {
                        return 0;
                    }
                    stack[top - 2] = combine(-op, stack[top - 2], stack[top - 1]);
                    top--;
                }
            }
            return stack[0];
        }

        private static int combine(int sign, int a, int b) {
            switch (sign) {
                case '+': return a + b;
                case '-': return a - b;
                case '*': return a * b;
                case '/': return b == 0 ? 0 : a / b;
                case '<': return a < b ? 1 : 0;
                case '=': return a == b ? 1 : 0;
                case '>': return a > b ? 1 : 0;
                case WORD_AND: return a & b;
                default: return a | b;
            }
        }
    }

    /** The scenes, and who wears what in them. */
    private static final class Script {
        final int[] minutes = new int[MOST_SCENES];
        final int[] scene = new int[MOST_WEARS];
        final int[] actor = new int[MOST_WEARS];
        final int[] kind = new int[MOST_WEARS];
        int scenes;
        int wears;

        void copyFrom(Script from) {
            copyRow(from.minutes, minutes);
            copyRow(from.scene, scene);
            copyRow(from.actor, actor);
            copyRow(from.kind, kind);
            scenes = from.scenes;
            wears = from.wears;
        }

        void clear() {
            scenes = 0;
            wears = 0;
        }
    }

    /** The tape, and how it is read as a text into a draft; the house takes over a draft without fault. */
    private static final class Reader {
        final int[] tape = new int[MOST_TAPE];
        int size;
        int fault;
        int faultPlace = NONE;
        final Law law = new Law();
        final Script script = new Script();
        /** The tape's tokens with their places and numbers, the end being the last one. */
        final int[] tokens = new int[MOST_TAPE + 1];
        final int[] places = new int[MOST_TAPE + 1];
        final int[] values = new int[MOST_TAPE + 1];
        int count;
        int at;

        boolean hasRoom() {
            return size + 20 <= MOST_TAPE;
        }

        void append(int four) {
            for (int shift = 24; shift >= 0 && size < MOST_TAPE; shift -= 8) {
                tape[size] = four >>> shift & 255;
                size++;
            }
        }

        /** Makes ready to read text k: false if there is no such one. */
        boolean start(int k) {
            fault = 0;
            faultPlace = NONE;
            if (k < 0 || k > 2) {
                return false;
            }
            scan();
            return true;
        }

        // -- tokens

        private void scan() {
            count = 0;
            at = 0;
            int place = 0;
            while (place < size) {
                int stop = runEnd(place);
                int sign = tape[place];
                if (isLetter(sign)) {
                    addToken(keyword(place, stop), place, 0);
                } else if (isDigit(sign)) {
                    addToken(stop - place <= MOST_DIGITS ? TOKEN_NUMBER : TOKEN_BAD, place, number(place, stop));
                } else if (sign != ' ' && sign != '\n') {
                    addToken(SIGNS.indexOf((char) sign) >= 0 ? sign : TOKEN_BAD, place, 0);
                }
                place = Math.max(stop, place + 1);
            }
            addToken(TOKEN_END, size, 0);
        }

        private void addToken(int token, int place, int value) {
            if (count <= MOST_TAPE) {
                tokens[count] = token;
                places[count] = place;
                values[count] = value;
                count++;
            }
        }

        /** Behind the letters or the digits that stand together from a place on, or behind one sign. */
        private int runEnd(int place) {
            boolean letters = isLetter(tape[place]);
            if (!letters && !isDigit(tape[place])) {
                return place + 1;
            }
            int stop = place + 1;
            while (stop < size && (letters ? isLetter(tape[stop]) : isDigit(tape[stop]))) {
                stop++;
            }
            return stop;
        }

        private static boolean isLetter(int sign) {
            return (sign >= 'a' && sign <= 'z') || (sign >= 'A' && sign <= 'Z');
        }

        private static boolean isDigit(int sign) {
            return sign >= '0' && sign <= '9';
        }

        private int number(int place, int stop) {
            int value = 0;
            for (int i = place; i < stop && i < place + MOST_DIGITS; i++) {
                value = value * 10 + tape[i] - '0';
            }
            return value;
        }

        private int keyword(int place, int stop) {
            int word = FIRST_WORD;
            int i = place;
            boolean alike = true;
            for (int k = 0; k < KEYWORDS.length(); k++) {
                char sign = KEYWORDS.charAt(k);
                if (sign != ' ') {
                    alike = alike && i < stop && tape[i] == sign;
                    i++;
                } else if (alike && i == stop) {
                    return word;
                } else {
                    word++;
                    i = place;
                    alike = true;
                }
            }
            return TOKEN_BAD;
        }

        // -- reading; each answers whether there was no fault, and stands behind what it read

        private int token() {
            return at < count ? tokens[at] : TOKEN_END;
        }

        private int value() {
            return at < count ? values[at] : 0;
        }

        private boolean refuse(int what) {
            fault = what;
            faultPlace = at < count ? places[at] : size;
            return false;
        }

        private boolean pass(int token) {
            if (token() != token) {
                return refuse(FAULT_STANDS);
            }
            at++;
            return true;
        }

        boolean readLaw(boolean altering) {
            law.clear();
            for (int turn = 0; turn <= MOST_LINES && token() != TOKEN_END; turn++) {
                int word = token();
                boolean stands = altering ? word == WORD_COST || word == WORD_MEND
                        : word == WORD_TEAR || word == WORD_DIRT || word == WORD_CHANGE;
                if (!stands) {
                    return refuse(FAULT_STANDS);
                }
                if (law.lines >= MOST_LINES) {
                    return refuse(FAULT_MANY);
                }
                at++;
                int start = law.size;
                if (!readSum()) {
                    return false;
                }
                int condition = law.size;
                if (token() == WORD_WHEN) {
                    at++;
                    if (!readEither(0)) {
                        return false;
                    }
                }
                if (!pass(';')) {
                    return false;
                }
                law.addLine(word, start, condition);
            }
            return true;
        }

        /** B: what binds less waits in a pending sign, so that one loop reads both or and and. */
        private boolean readEither(int open) {
            int pending = 0;
            if (!readCondition(open)) {
                return false;
            }
            for (int turn = 0; turn < MOST_TAPE; turn++) {
                int word = token();
                if (word != WORD_OR && word != WORD_AND) {
                    break;
                }
                if (word == WORD_OR) {
                    emitPending(pending);
                    pending = WORD_OR;
                }
                at++;
                if (!readCondition(open)) {
                    return false;
                }
                if (word == WORD_AND) {
                    law.emit(-WORD_AND);
                }
            }
            emitPending(pending);
            return true;
        }

        private void emitPending(int pending) {
            if (pending != 0) {
                law.emit(-pending);
            }
        }

        private boolean readCondition(int open) {
            int token = token();
            boolean opens = token == WORD_NOT || token == '(';
            if (opens && open >= MOST_OPEN) {
                return refuse(FAULT_MANY);
            }
            if (token == '(') {
                at++;
                return readEither(open + 1) && pass(')');
            }
            if (token == WORD_NOT) {
                at++;
                boolean right = readCondition(open + 1);
                law.emit(-WORD_NOT);
                return right;
            }
            if (!readSum()) {
                return false;
            }
            int sign = token();
            if (sign != '<' && sign != '=' && sign != '>') {
                return refuse(FAULT_STANDS);
            }
            at++;
            boolean right = readSum();
            law.emit(-sign);
            return right;
        }

        /** E, with T inside it: a plus or minus waits until the product behind it has been read. */
        private boolean readSum() {
            int pending = 0;
            if (!readUnit(false)) {
                return false;
            }
            for (int turn = 0; turn < MOST_TAPE; turn++) {
                int sign = token();
                if (sign != '+' && sign != '-' && sign != '*' && sign != '/') {
                    break;
                }
                if (sign == '+' || sign == '-') {
                    emitPending(pending);
                    pending = sign;
                }
                at++;
                if (!readUnit(sign == '/')) {
                    return false;
                }
                if (sign == '*' || sign == '/') {
                    law.emit(-sign);
                }
            }
            emitPending(pending);
            return true;
        }

        /** U; as a divisor, a number that is not 0. */
        private boolean readUnit(boolean divides) {
            int token = token();
            if (token == TOKEN_NUMBER) {
                if (divides && value() == 0) {
                    return refuse(FAULT_NUMBER);
                }
                law.emit(value());
            } else if (!divides && token >= WORD_BY && token <= WORD_NEXT) {
                law.emit(-1 - (token - WORD_BY));
            } else if (!divides && token == WORD_DIRT) {
                law.emit(-1 - FACT_DIRT);
            } else {
                return refuse(FAULT_STANDS);
            }
            at++;
            return true;
        }

        boolean readScenes(int actors) {
            script.clear();
            for (int turn = 0; turn <= MOST_SCENES && token() != TOKEN_END; turn++) {
                if (token() == WORD_SCENE && script.scenes >= MOST_SCENES) {
                    return refuse(FAULT_MANY);
                }
                if (!pass(WORD_SCENE)) {
                    return false;
                }
                int minutes = value();
                if (token() == TOKEN_NUMBER && minutes > MOST_MINUTES) {
                    return refuse(FAULT_NUMBER);
                }
                if (!pass(TOKEN_NUMBER) || !readWears(actors) || !pass(';')) {
                    return false;
                }
                script.minutes[script.scenes] = minutes;
                script.scenes++;
            }
            return true;
        }

        private boolean readWears(int actors) {
            int seen = 0;
            for (int turn = 0; turn <= MOST_WEARS && token() == WORD_WEAR; turn++) {
                if (script.wears >= MOST_WEARS) {
                    return refuse(FAULT_MANY);
                }
                at++;
                int actor = value();
                if (token() == TOKEN_NUMBER && actor >= actors) {
                    return refuse(FAULT_NUMBER);
                }
                if (token() == TOKEN_NUMBER && has(seen, actor)) {
                    return refuse(FAULT_MANY);
                }
                if (!pass(TOKEN_NUMBER)) {
                    return false;
                }
                seen |= 1 << actor;
                int word = token();
                if (word < WORD_DRESS || word > WORD_SET) {
                    return refuse(FAULT_STANDS);
                }
                at++;
                script.scene[script.wears] = script.scenes;
                script.actor[script.wears] = actor;
                script.kind[script.wears] = word - WORD_DRESS;
                script.wears++;
            }
            return true;
        }
    }

    /**
     * The plan of least cost. Every rule of a plan is about one wear or two: so the things that could be
     * in each wear, and for each of them those that may yet be in each other wear, are told as sets once.
     */
    private static final class Planner {
        boolean known;
        boolean found;
        int planCost;
        int changes;
        final int[] chosen = new int[MOST_WEARS];
        private int wears;
        private int things;
        /** Of each wear the things that could be there by themselves, and what each costs. */
        private final int[] could = new int[MOST_WEARS];
        private final int[] costs = new int[MOST_WEARS * MOST_THINGS];
        /** With a thing in a wear: what may be in a later wear. */
        private final int[] beside = new int[MOST_WEARS * MOST_THINGS * MOST_WEARS];
        /** In the search: with the wears ahead of i set, what may yet be in wear i and behind it. */
        private final int[][] left = new int[MOST_WEARS + 1][MOST_WEARS];
        private final int[] tried = new int[MOST_WEARS];
        private final int[] bestTried = new int[MOST_WEARS];
        private int least;
        /** In the search: what the wears from i on cost at least, whatever stands ahead of them. */
        private final int[] atLeast = new int[MOST_WEARS];

        void forgetPlan() {
            known = false;
        }

        /** Finds the plan, unless nothing has changed since it was found. */
        void prepare(House house) {
            if (known) {
                return;
            }
            wears = house.script.wears;
            things = house.things;
            for (int i = 0; i < wears; i++) {
                findCandidates(house, i);
            }
            for (int i = 0; i < wears; i++) {
                for (int j = i + 1; j < wears; j++) {
                    relate(house, i, j);
                }
            }
            startSearch();
            found = searchAll();
            planCost = least;
            copyRow(bestTried, chosen);
            changes = countChanges(house.script);
            known = true;
        }

        // -- the sets

        private void findCandidates(House house, int i) {
            int actor = house.script.actor[i];
            could[i] = 0;
            for (int thing = 0; thing < things; thing++) {
                if (house.isOfKind(thing, house.script.kind[i]) && house.stock.torn[thing] < TOO_TORN
                        && !house.isAway(thing) && house.fit(thing, actor) != 0) {
                    could[i] |= 1 << thing;
                    costs[i * MOST_THINGS + thing] = house.price(thing, house.body, actor * MEASURES);
                }
            }
        }

        private static int besideAt(int i, int thing, int j) {
            return (i * MOST_THINGS + thing) * MOST_WEARS + j;
        }

        /** Told for i below j. */
        private void relate(House house, int i, int j) {
            Script script = house.script;
            int apart = script.scene[j] - script.scene[i];
            int minutes = script.minutes[script.scene[i]];
            boolean oneActor = script.actor[i] == script.actor[j];
            for (int thing = 0; thing < things; thing++) {
                if (has(could[i], thing)) {
                    int set = could[j];
                    if (apart == 0) {
                        set &= ~(1 << thing);
                    } else if (apart == 1) {
                        set = oneActor ? quickEnough(house, minutes, thing, set)
                                : handedOver(house, minutes, thing, set);
                    }
                    beside[besideAt(i, thing, j)] = set;
                }
            }
        }

        /** Of a set of things those into which an actor can change from a thing, or which he has on. */
        private static int quickEnough(House house, int minutes, int thing, int set) {
            int kinds = 0;
            for (int kind = 0; kind < TRUNK; kind++) {
                if (house.changeMinutes(thing, kind) <= minutes) {
                    kinds |= 1 << kind;
                }
            }
            int quick = set & 1 << thing;
            for (int other = 0; other < house.things; other++) {
                if (has(set, other) && has(kinds, house.kind[other])) {
                    quick |= 1 << other;
                }
            }
            return quick;
        }

        /** A set of things without the one that another actor can't have on in time. */
        private static int handedOver(House house, int minutes, int thing, int set) {
            boolean inTime = 2 * house.changeMinutes(thing, house.kind[thing]) <= minutes;
            return inTime ? set : set & ~(1 << thing);
        }

        private int countChanges(Script script) {
            int count = 0;
            for (int i = 0; i < wears; i++) {
                for (int j = i + 1; j < wears; j++) {
                    if (script.scene[j] - script.scene[i] == 1 && script.actor[i] == script.actor[j]
                            && chosen[i] != chosen[j]) {
                        count++;
                    }
                }
            }
            return count;
        }

        // -- the search

        private void startSearch() {
            for (int i = 0; i < wears; i++) {
                copyRow(could, left[i]);
            }
        }

        /** The last wears come first, then with one more each time: what they cost bounds the next search. */
        private boolean searchAll() {
            least = 0;
            for (int first = wears - 1; first >= 0; first--) {
                least = TOO_DEAR;
                search(first, 0);
                atLeast[first] = least;
                if (least == TOO_DEAR) {
                    return false;
                }
            }
            return true;
        }

        /** Lesser things come first and only a cheaper plan is better: the first of the cheapest stays. */
        private void search(int i, int paid) {
            if (i >= wears) {
                least = paid;
                copyRow(tried, bestTried);
                return;
            }
            int behind = i + 1 < wears ? atLeast[i + 1] : 0;
            for (int thing = 0; thing < things; thing++) {
                int sum = paid + costs[i * MOST_THINGS + thing];
                if (has(left[i][i], thing) && sum + behind < least) {
                    int rest = narrow(i, thing);
                    if (rest != NONE && sum + rest < least) {
                        tried[i] = thing;
                        search(i + 1, sum);
                    }
                }
            }
        }

        /** Leaves behind wear i what goes with a thing there; what that costs at least, NONE if a wear has nothing. */
        private int narrow(int i, int thing) {
            int rest = 0;
            for (int j = i + 1; j < wears; j++) {
                int set = left[i][j] & beside[besideAt(i, thing, j)];
                if (set == 0) {
                    return NONE;
                }
                left[i + 1][j] = set;
                rest += cheapest(j, set);
            }
            return rest;
        }

        private int cheapest(int j, int set) {
            int cost = TOO_DEAR;
            for (int thing = 0; thing < things; thing++) {
                if (has(set, thing)) {
                    cost = Math.min(cost, costs[j * MOST_THINGS + thing]);
                }
            }
            return cost;
        }

        // -- what is asked of a plan

        int bound(int first) {
            int sum = 0;
            for (int j = first; j < wears; j++) {
                if (could[j] == 0) {
                    return NONE;
                }
                sum += cheapest(j, could[j]);
            }
            return sum;
        }

        int uses(int thing) {
            int set = 0;
            for (int i = 0; i < wears; i++) {
                if (chosen[i] == thing) {
                    set |= 1 << i;
                }
            }
            return set;
        }

        int instead(int i) {
            int set = could[i] & ~(1 << chosen[i]);
            for (int j = 0; j < i; j++) {
                set &= beside[besideAt(j, chosen[j], i)];
            }
            for (int thing = 0; thing < things; thing++) {
                for (int j = i + 1; j < wears && has(set, thing); j++) {
                    if (!has(beside[besideAt(i, thing, j)], chosen[j])) {
                        set &= ~(1 << thing);
                    }
                }
            }
            return set;
        }

        /** ELSE: the least cost with another thing in wear i than in the plan. */
        int otherwise(int i) {
            startSearch();
            for (int first = 0; first <= i; first++) {
                left[first][i] &= ~(1 << chosen[i]);
            }
            return searchAll() ? least : NONE;
        }

        boolean canSwap(int i, int j) {
            if (chosen[i] == chosen[j]) {
                return false;
            }
            copyRow(chosen, tried);
            tried[i] = chosen[j];
            tried[j] = chosen[i];
            return isPlan();
        }

        /** Whether what was tried is a plan. */
        private boolean isPlan() {
            for (int i = 0; i < wears; i++) {
                if (!has(could[i], tried[i])) {
                    return false;
                }
                for (int j = 0; j < i; j++) {
                    if (!has(beside[besideAt(j, tried[j], i)], tried[i])) {
                        return false;
                    }
                }
            }
            return true;
        }

        int swapCost(int i, int j) {
            return planCost - costs[i * MOST_THINGS + chosen[i]] - costs[j * MOST_THINGS + chosen[j]]
                    + costs[i * MOST_THINGS + chosen[j]] + costs[j * MOST_THINGS + chosen[i]];
        }
    }
}
