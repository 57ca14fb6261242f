import java.util.Arrays;

/** A steep town of places at heights, its stairs, slides and ropes, and the errands that are run in it. */
public final class HillErrands {
    public static final int NONE = -1;

    private static final int NO_WAY = -2;
    private static final int BAD_ERRANDS = -3;
    private static final int NOT_BROUGHT = -1000000;
    private static final int NO_SUCH_BRINGING = -2000000;
    private static final int NOT_TOLD = -1000;

    private static final int MOST_PLACES = 20;
    private static final int MOST_STAIRS = 40;
    private static final int MOST_HEIGHT = 200;
    private static final int MOST_LOAD = 99;
    private static final int MOST_TEXT = 160;
    private static final int MOST_CLAUSES = 12;
    private static final int MOST_OPEN = 6;
    private static final int MOST_DIGITS = 5;
    private static final int MOST_PRICE = 9999;
    private static final int MOST_TAPE = 200;
    private static final int MOST_FARES = 30;
    private static final int MOST_SHOPS = 3;
    private static final int MOST_TURNS = 20;
    private static final int EIGHT = 8;

    private static final int STAIRS_OF_WAY = 20;
    private static final int TOGETHER = 10;
    private static final int STUCK = 1000;
    private static final int SLIDE = 1;

    /** More than nine ways together cost; nine of it, doubled, still fit into an int. */
    private static final int FAR = 100000000;

    private final Tape tape;
    private final Reader reader;
    private final Town town;
    private final Ways ways;
    private final Rounds rounds;
    private final Folk folk;
    private final Wells wells;
    private final Market market;
    private final Mason mason;
    private final Fares fares;
    private int x;

    public HillErrands() {
        Town newTown = new Town();
        Ways newWays = new Ways(newTown);
        Folk newFolk = new Folk(newWays);
        tape = new Tape();
        reader = new Reader();
        town = newTown;
        ways = newWays;
        rounds = new Rounds(newWays);
        folk = newFolk;
        wells = new Wells(newTown, newWays, newFolk);
        market = new Market(newTown, newWays, newFolk);
        mason = new Mason(newTown, newWays, newFolk);
        fares = new Fares();
        x = 1;
    }

    public int place(int height) {
        if (!within(height, MOST_HEIGHT)) {
            return NONE;
        }
        return town.addPlace(height);
    }

    public int stair(int a, int b, int sort) {
        if (!town.isPlace(a) || !town.isPlace(b) || a == b || !within(sort, 2)) {
            return NONE;
        }
        if (sort == SLIDE && !town.isSlope(a, b)) {
            return NONE;
        }
        return town.addStair(a, b, sort);
    }

    public boolean season(int w) {
        if (!within(w, 3)) {
            return false;
        }
        town.turnTo(w);
        return true;
    }

    public int feed(int a, int b, int c, int d, int e) {
        if (!tape.hasRoom(20)) {
            return NONE;
        }
        tape.append(a);
        tape.append(b);
        tape.append(c);
        tape.append(d);
        tape.append(e);
        return tape.size();
    }

    public int law(int n) {
        if (n < 1 || n > MOST_TEXT || n > tape.size()) {
            return NONE;
        }
        int answer = reader.read(tape, n);
        tape.clear();
        if (answer > 0) {
            town.setLaw(reader.exchange(town.currentLaw()));
        }
        return answer;
    }

    public int going(int s, boolean back, int load) {
        if (s < 0 || s >= town.stairs || !within(load, MOST_LOAD)) {
            return NONE;
        }
        return town.along(s, back, load);
    }

    public int way(int from, int to, int load, int what) {
        if (!town.isPlace(from) || !town.isPlace(to) || !within(load, MOST_LOAD)) {
            return NONE;
        }
        if (what < NONE || what > STAIRS_OF_WAY) {
            return NONE;
        }
        ways.freshen(load);
        int cost = ways.cost(from, to, load);
        if (cost >= FAR) {
            return NO_WAY;
        }
        if (what == NONE) {
            return cost;
        }
        int length = ways.walk(from, to, load);
        return what == STAIRS_OF_WAY ? length - 1 : ways.onWalk(what);
    }

    public boolean errand(int i, int place, int weight, int worth) {
        if (!within(i, EIGHT - 1) || !town.isPlace(place) || !within(weight, 12) || !within(worth, 999)) {
            return false;
        }
        rounds.tell(i, place, weight, worth);
        return true;
    }

    public int round(int home, int n) {
        if (!town.isPlace(home) || n < 1 || n > EIGHT || n > tape.size()) {
            return NONE;
        }
        boolean fit = rounds.readOrder(tape, n);
        tape.clear();
        if (!fit) {
            return BAD_ERRANDS;
        }
        return orNoWay(rounds.costInOrder(home, n));
    }

    public int best(int home, int errands, int what) {
        if (!town.isPlace(home) || !isSetOf(errands, rounds.told)) {
            return NONE;
        }
        boolean placed = within(what, Integer.bitCount(errands) - 1);
        if (what != NONE && what != TOGETHER && !placed) {
            return NONE;
        }
        rounds.freshen(errands);
        if (what == TOGETHER) {
            return orNoWay(rounds.separate(home, errands));
        }
        int cost = rounds.finish(home, errands);
        if (cost >= FAR) {
            return NO_WAY;
        }
        return what == NONE ? cost : rounds.inBestOrder(home, errands, what);
    }

    public int day(int home, int steps, int what) {
        if (!town.isPlace(home) || !within(steps, 99999) || !within(what, 2)) {
            return NONE;
        }
        rounds.freshen(rounds.told);
        rounds.spread(home);
        int set = rounds.setOfDay(home, steps);
        if (what == 0) {
            return rounds.worthOf(set);
        }
        return what == 1 ? set : rounds.closed(home, set);
    }

    public int person(int from, int to, int carries) {
        if (!town.isPlace(from) || !town.isPlace(to) || !within(carries, 99)) {
            return NONE;
        }
        return folk.addPerson(from, to, carries);
    }

    public boolean thing(int i, int from, int to, int weight) {
        if (!within(i, EIGHT - 1) || !town.isPlace(from) || !town.isPlace(to) || !within(weight, MOST_LOAD)) {
            return false;
        }
        folk.tellThing(i, from, to, weight);
        return true;
    }

    public int brought(int p, int i) {
        if (p < 0 || p >= folk.people || !within(i, EIGHT - 1) || (folk.things >> i & 1) == 0) {
            return NO_SUCH_BRINGING;
        }
        folk.freshen(1 << i);
        return folk.bringing(p, i);
    }

    public int sent(int things, int what) {
        boolean numbered = within(what, EIGHT - 1);
        if (!isSetOf(things, folk.things) || what != NONE && what != TOGETHER && !numbered) {
            return NONE;
        }
        if (numbered && (things >> what & 1) == 0) {
            return NO_WAY;
        }
        folk.freshen(things);
        folk.send(things);
        if (numbered) {
            return folk.senderOf(what);
        }
        return what == NONE ? folk.sentOf(things) : folk.costOfSent(things);
    }

    public boolean wants(int place, int n) {
        if (!town.isPlace(place) || !within(n, 99)) {
            return false;
        }
        town.setWanted(place, n);
        return true;
    }

    public int water(int well, int what) {
        if (!town.isPlace(well) || !within(what, 2)) {
            return NONE;
        }
        if (what == 1) {
            return town.wantedTogether();
        }
        wells.lookFrom(well);
        return what == 0 ? town.wantedTogether() - wells.lacking() : wells.drySet();
    }

    public int shops(int places) {
        int n = Integer.bitCount(places);
        if (!isSetOf(places, (1 << town.places) - 1) || n > MOST_SHOPS) {
            return NONE;
        }
        market.measure();
        return market.costsOfSet(places);
    }

    public int shop(int n, int what) {
        if (n < 1 || n > MOST_SHOPS || n > town.places || what < NONE || what >= n) {
            return NONE;
        }
        market.measure();
        int least = market.settle(n);
        return what == NONE ? least : market.spotOf(what);
    }

    public int themselves(int abc, int n, int what) {
        if (n < 2 || n > MOST_SHOPS || !market.open(abc, n)) {
            return NONE;
        }
        boolean where = within(what, n - 1);
        boolean comers = within(what - 10, n - 1);
        if (!where && !comers && what != 20) {
            return NONE;
        }
        market.measure();
        int moved = market.moveAll(n);
        if (what == 20) {
            return moved == MOST_TURNS ? NO_WAY : moved;
        }
        return where ? market.spotOf(what) : market.comersTo(what - 10, n);
    }

    public int oneMore(int sort, int what) {
        if (!within(sort, 2) || !within(what, 2)) {
            return NONE;
        }
        if (town.places < 2 || town.stairs >= MOST_STAIRS) {
            return NO_WAY;
        }
        mason.plan(sort);
        return mason.planned(what);
    }

    public int meet(int a, int b, int what) {
        boolean known = what == 0 || what == 1 || what == 10 || what == 11;
        if (!town.isPlace(a) || !town.isPlace(b) || !known) {
            return NONE;
        }
        ways.freshen(0);
        boolean fair = what % 10 == 1;
        int where = meetingPlace(a, b, fair);
        if (where == NONE) {
            return NO_WAY;
        }
        return what < 10 ? where : meetingCost(a, b, where, fair);
    }

    public int fare(int a, int b, int steps) {
        if (!town.isPlace(a) || !town.isPlace(b) || a == b || steps < -200 || steps > 200) {
            return NONE;
        }
        return fares.add(a, b, steps);
    }

    public int ends(int a, int b) {
        if (!town.isPlace(a) || !town.isPlace(b)) {
            return NOT_TOLD;
        }
        return fares.apart(a, b);
    }

    public int falseFares(int what) {
        return what == NONE ? fares.untrue : fares.untrueAt(what);
    }

    public boolean seed(int x) {
        if (!within(x, 65535)) {
            return false;
        }
        this.x = x;
        return true;
    }

    public int draw(int home, int n, int what) {
        if (!town.isPlace(home) || n < 1 || n > 20 || !within(what, 1)) {
            return NONE;
        }
        int set = drawSet(n);
        if (what == 0 || set == 0) {
            return set;
        }
        rounds.freshen(set);
        return orNoWay(rounds.finish(home, set));
    }

    public int keep() {
        town.mark();
        return town.stairs;
    }

    public boolean undo() {
        return town.fallBack();
    }

    public int check(int from, int n) {
        if (!town.isPlace(from) || n < 0 || n > tape.size() / 4) {
            return -2;
        }
        ways.freshen(0);
        int answer = firstWrong(from, n);
        tape.clear();
        return answer;
    }

    public int count(int what) {
        if (what >= 20 && what < 40) {
            return town.isPlace(what - 20) ? town.heightOf(what - 20) : NONE;
        }
        if (what >= 40 && what < 60) {
            return town.isPlace(what - 40) ? town.wantedAt(what - 40) : NONE;
        }
        switch (what) {
            case 0: return town.places;
            case 1: return town.stairs;
            case 2: return town.clauses();
            case 3: return tape.size();
            case 4: return town.currentSeason();
            case 5: return rounds.told;
            case 6: return folk.people;
            case 7: return folk.things;
            case 8: return fares.told;
            case 9: return x;
            default: return NONE;
        }
    }

    private static boolean within(int n, int most) {
        return n >= 0 && n <= most;
    }

    private static boolean isSetOf(int set, int all) {
        return set > 0 && (set & ~all) == 0;
    }

    private static int orNoWay(int cost) {
        return cost >= FAR ? NO_WAY : cost;
    }

    private int drawSet(int n) {
        int set = 0;
        for (int i = 0; i < n; i++) {
            x = (25173 * x + 13849) & 65535;
            set ^= 1 << (x & 7) & rounds.told;
        }
        return set;
    }

    private int firstWrong(int from, int n) {
        for (int i = 0; i < n; i++) {
            if (i >= town.places || tape.numberAt(i) != orNoWay(ways.cost(from, i, 0))) {
                return i;
            }
        }
        return n < town.places ? n : NONE;
    }

    private int meetingPlace(int a, int b, boolean fair) {
        int where = NONE;
        int least = FAR;
        for (int p = 0; p < town.places; p++) {
            int cost = meetingCost(a, b, p, fair);
            if (cost < least) {
                least = cost;
                where = p;
            }
        }
        return where;
    }

    private int meetingCost(int a, int b, int p, boolean fair) {
        int ofA = ways.trip(a, p);
        int ofB = ways.trip(b, p);
        return fair ? Math.max(ofA, ofB) : ofA + ofB;
    }

    /** The bytes that were fed and not yet used. */
    static final class Tape {
        private final int[] bytes = new int[MOST_TAPE];
        private int size;

        int size() {
            return size;
        }

        boolean hasRoom(int n) {
            return size + n <= MOST_TAPE;
        }

        void append(int number) {
            if (!hasRoom(4)) {
                return;
            }
            for (int shift = 24; shift >= 0; shift -= 8) {
                bytes[size] = number >>> shift & 255;
                size++;
            }
        }

        int byteAt(int i) {
            return i >= 0 && i < size ? bytes[i] : NONE;
        }

        int numberAt(int i) {
            int number = 0;
            for (int k = 0; k < 4; k++) {
                number = number << 8 | byteAt(4 * i + k) & 255;
            }
            return number;
        }

        void clear() {
            size = 0;
        }
    }

    /**
     * A law as a row of steps for a small stack machine. A step bears the sign that it came from;
     * behind & and | it says where to go on if nothing more of the part, or of the whole, matters.
     */
    static final class Law {
        static final int NUMBER = '0';
        static final int LETTER = 'a';
        static final int UP = 0;
        static final int LOAD_LETTER = 3;

        private final int[] signs = new int[MOST_TEXT];
        private final int[] with = new int[MOST_TEXT];
        private int size;

        private final int[] kinds = new int[MOST_CLAUSES];
        private final int[] priceFrom = new int[MOST_CLAUSES];
        private final int[] conditionFrom = new int[MOST_CLAUSES];
        private final int[] conditionTo = new int[MOST_CLAUSES];
        int clauses;
        boolean loadMatters;

        private final int[] stack = new int[64];
        private boolean refused;

        void clear() {
            size = 0;
            clauses = 0;
            loadMatters = false;
        }

        boolean isFull() {
            return clauses >= MOST_CLAUSES;
        }

        void beginClause(int kind) {
            if (!isFull()) {
                kinds[clauses] = kind;
                priceFrom[clauses] = size;
            }
        }

        void beginCondition() {
            if (!isFull()) {
                conditionFrom[clauses] = size;
            }
        }

        void endClause() {
            if (!isFull()) {
                conditionTo[clauses] = size;
                clauses++;
            }
        }

        void emit(int sign, int value) {
            if (size >= MOST_TEXT) {
                return;
            }
            signs[size] = sign;
            with[size] = value;
            size++;
            if (sign == LETTER && value == LOAD_LETTER) {
                loadMatters = true;
            }
        }

        /** Adds a & or |, to which the one before it in its row leads: where it stands. */
        int link(int sign, int before) {
            land(before);
            emit(sign, size);
            return size - 1;
        }

        void land(int before) {
            if (before >= 0 && before < size) {
                with[before] = size;
            }
        }

        /** What a going costs that has these letters, or NO_WAY. */
        int price(int[] letters) {
            int found = NONE;
            for (int c = 0; c < clauses; c++) {
                boolean forbids = kinds[c] == 'n';
                boolean matters = forbids || found == NONE;
                if (!matters || reckon(conditionFrom[c], conditionTo[c], letters) == 0) {
                    continue;
                }
                if (forbids) {
                    return NO_WAY;
                }
                int sum = reckon(priceFrom[c], conditionFrom[c], letters);
                found = Math.max(0, Math.min(MOST_PRICE, sum));
            }
            return found == NONE ? letters[UP] : found;
        }

        /** What the steps come to; 0 if they are refused, which is false of a condition. */
        private int reckon(int from, int to, int[] letters) {
            refused = false;
            int height = 0;
            int next = from;
            for (int i = from; i < to; i++) {
                if (i < next) {
                    continue;
                }
                int sign = signs[i];
                if (sign == NUMBER || sign == LETTER) {
                    if (height >= stack.length) {
                        return 0;
                    }
                    stack[height] = sign == NUMBER ? with[i] : letters[with[i]];
                    height++;
                } else if (sign == '&' || sign == '|' || sign == '!') {
                    if (height < 1) {
                        return 0;
                    }
                    boolean yes = stack[height - 1] != 0;
                    if (sign == '!') {
                        stack[height - 1] = yes ? 0 : 1;
                    } else if (yes == (sign == '|')) {
                        next = with[i];
                    } else {
                        height--;
                    }
                } else {
                    if (height < 2) {
                        return 0;
                    }
                    height--;
                    stack[height - 1] = joined(sign, stack[height - 1], stack[height]);
                    if (refused) {
                        return 0;
                    }
                }
            }
            return height == 1 ? stack[0] : 0;
        }

        private int joined(int sign, int a, int b) {
            if ((sign == '/' || sign == '%') && b == 0) {
                refused = true;
                return 0;
            }
            switch (sign) {
                case '+': return a + b;
                case '-': return a - b;
                case '*': return a * b;
                case '/': return b == 0 ? 0 : a / b;
                case '%': return b == 0 ? 0 : a % b;
                case '<': return a < b ? 1 : 0;
                case '>': return a > b ? 1 : 0;
                default: return a == b ? 1 : 0;
            }
        }
    }

    /** Reads a law from the tape. */
    static final class Reader {
        private static final String LETTERS = "udklwfgsh";
        private static final int ODD_SIGN = 1;
        private static final int SIXTH_DIGIT = 2;
        private static final int CLAUSE_TOO_MANY = 4;
        private static final int TOO_DEEP = 5;

        private final int[] text = new int[MOST_TEXT];
        /** Not the law that holds: if the text is at fault that one has to stay. */
        private Law draft = new Law();
        private int at;
        private int end;
        private int fault;

        /** How many clauses the first n bytes of the tape have, or the fault. */
        int read(Tape tape, int n) {
            at = 0;
            end = Math.min(n, MOST_TEXT);
            fault = 0;
            for (int i = 0; i < end; i++) {
                text[i] = tape.byteAt(i);
            }
            draft.clear();
            clause();
            for (int c = 0; c < MOST_CLAUSES && fault == 0 && at < end; c++) {
                take(';');
                clause();
            }
            return fault != 0 ? fault : draft.clauses;
        }

        /** The law just read, for the one before, which is written over next time. */
        Law exchange(Law before) {
            Law read = draft;
            draft = before;
            return read;
        }

        private int sign() {
            return at >= 0 && at < end ? text[at] : NONE;
        }

        private void fail(int kind) {
            if (fault == 0) {
                fault = -1000 * kind - at;
            }
        }

        private void take(int wanted) {
            if (fault == 0 && sign() != wanted) {
                fail(ODD_SIGN);
            }
            if (fault == 0) {
                at++;
            }
        }

        private void clause() {
            if (fault != 0) {
                return;
            }
            int kind = sign();
            if (kind != 'n' && kind != 'c') {
                fail(ODD_SIGN);
            } else if (draft.isFull()) {
                fail(CLAUSE_TOO_MANY);
            }
            if (fault != 0) {
                return;
            }
            at++;
            draft.beginClause(kind);
            if (kind == 'c') {
                sum(0);
            }
            take('(');
            draft.beginCondition();
            condition(1);
            take(')');
            draft.endClause();
        }

        private void condition(int open) {
            part(open);
            int before = NONE;
            while (fault == 0 && at < end && sign() == '|') {
                at++;
                before = draft.link('|', before);
                part(open);
            }
            draft.land(before);
        }

        private void part(int open) {
            piece(open);
            int before = NONE;
            while (fault == 0 && at < end && sign() == '&') {
                at++;
                before = draft.link('&', before);
                piece(open);
            }
            draft.land(before);
        }

        private void piece(int open) {
            if (fault != 0) {
                return;
            }
            int sign = sign();
            if (sign != '!' && sign != '(') {
                comparison(open);
                return;
            }
            if (open >= MOST_OPEN) {
                fail(TOO_DEEP);
                return;
            }
            at++;
            if (sign == '!') {
                piece(open + 1);
                draft.emit('!', 0);
            } else {
                condition(open + 1);
                take(')');
            }
        }

        private void comparison(int open) {
            sum(open);
            int sign = sign();
            if (sign != '<' && sign != '>' && sign != '=') {
                fail(ODD_SIGN);
            }
            if (fault != 0) {
                return;
            }
            at++;
            sum(open);
            draft.emit(sign, 0);
        }

        private void sum(int open) {
            term(open);
            while (fault == 0 && at < end && (sign() == '+' || sign() == '-')) {
                int sign = sign();
                at++;
                term(open);
                draft.emit(sign, 0);
            }
        }

        private void term(int open) {
            factor(open);
            while (fault == 0 && at < end && (sign() == '*' || sign() == '/' || sign() == '%')) {
                int sign = sign();
                at++;
                factor(open);
                draft.emit(sign, 0);
            }
        }

        private void factor(int open) {
            if (fault != 0) {
                return;
            }
            int sign = sign();
            if (sign == '[') {
                if (open >= MOST_OPEN) {
                    fail(TOO_DEEP);
                    return;
                }
                at++;
                sum(open + 1);
                take(']');
            } else if (isDigit(sign)) {
                number();
            } else {
                letter(sign);
            }
        }

        private void number() {
            int number = 0;
            int digits = 0;
            while (at < end && isDigit(sign())) {
                if (digits == MOST_DIGITS) {
                    fail(SIXTH_DIGIT);
                    return;
                }
                number = 10 * number + sign() - '0';
                digits++;
                at++;
            }
            draft.emit(Law.NUMBER, number);
        }

        private void letter(int sign) {
            int which = sign < 0 ? NONE : LETTERS.indexOf((char) sign);
            if (which < 0) {
                fail(ODD_SIGN);
                return;
            }
            at++;
            draft.emit(Law.LETTER, which);
        }

        private static boolean isDigit(int sign) {
            return sign >= '0' && sign <= '9';
        }
    }

    /** Places, stairs, season and law, and what a going costs by them. */
    static final class Town {
        private final int[] heights = new int[MOST_PLACES];
        private final int[] wanted = new int[MOST_PLACES];
        private final int[] firsts = new int[MOST_STAIRS];
        private final int[] seconds = new int[MOST_STAIRS];
        private final int[] sorts = new int[MOST_STAIRS];
        private final int[] letters = new int[9];
        private Law law = new Law();
        private int season;
        private int keptStairs = NONE;
        private int keptSeason;
        int places;
        int stairs;
        /** Another one whenever a cost may have become another one. */
        int version = 1;

        boolean isPlace(int p) {
            return p >= 0 && p < places;
        }

        int heightOf(int p) {
            return heights[p];
        }

        boolean isSlope(int a, int b) {
            return heights[a] >= heights[b];
        }

        int addPlace(int height) {
            if (places >= MOST_PLACES) {
                return NONE;
            }
            heights[places] = height;
            places++;
            version++;
            return places - 1;
        }

        int addStair(int a, int b, int sort) {
            if (stairs >= MOST_STAIRS) {
                return NONE;
            }
            firsts[stairs] = a;
            seconds[stairs] = b;
            sorts[stairs] = sort;
            stairs++;
            version++;
            return stairs - 1;
        }

        int firstOf(int s) {
            return firsts[s];
        }

        int secondOf(int s) {
            return seconds[s];
        }

        int currentSeason() {
            return season;
        }

        void turnTo(int w) {
            season = w;
            version++;
        }

        void mark() {
            keptStairs = stairs;
            keptSeason = season;
        }

        boolean fallBack() {
            if (keptStairs == NONE) {
                return false;
            }
            stairs = keptStairs;
            season = keptSeason;
            version++;
            return true;
        }

        Law currentLaw() {
            return law;
        }

        void setLaw(Law next) {
            law = next;
            version++;
        }

        int clauses() {
            return law.clauses;
        }

        boolean loadMatters() {
            return law.loadMatters;
        }

        int wantedAt(int p) {
            return wanted[p];
        }

        void setWanted(int p, int n) {
            wanted[p] = n;
        }

        int wantedTogether() {
            int sum = 0;
            for (int p = 0; p < places; p++) {
                sum += wanted[p];
            }
            return sum;
        }

        /** What a going costs along a stair, or NO_WAY. */
        int along(int s, boolean back, int load) {
            if (back && sorts[s] == SLIDE) {
                return NO_WAY;
            }
            putPlaces(back ? seconds[s] : firsts[s], back ? firsts[s] : seconds[s]);
            putStair(sorts[s], s, load);
            return law.price(letters);
        }

        /** What a going would cost along one stair more. */
        int alongNew(int from, int to, int sort) {
            putPlaces(from, to);
            putStair(sort, stairs, 0);
            return law.price(letters);
        }

        private void putPlaces(int from, int to) {
            letters[0] = Math.max(0, heights[to] - heights[from]);
            letters[1] = Math.max(0, heights[from] - heights[to]);
            letters[5] = from;
            letters[6] = to;
            letters[8] = heights[from];
        }

        private void putStair(int sort, int number, int load) {
            letters[2] = sort;
            letters[3] = load;
            letters[4] = season;
            letters[7] = number;
        }
    }

    /**
     * Least ways between all places by load. They are held as keys, 32 times the cost and the number
     * of stairs, so that of ways of like cost the one of fewest stairs has the least key.
     */
    static final class Ways {
        private static final int SIZE = MOST_PLACES * MOST_PLACES;
        private static final int STAIR_BITS = 5;
        private static final int STAIR_MASK = 31;

        private final Town town;
        private final int[][] tables = new int[MOST_LOAD + 1][];
        private final int[] versions = new int[MOST_LOAD + 1];
        private final int[] row = new int[MOST_PLACES];
        private int walked;

        Ways(Town town) {
            this.town = town;
        }

        /** To be called for a load before its costs are asked. */
        void freshen(int load) {
            int slot = slotOf(load);
            int[] table = tables[slot];
            if (table == null) {
                table = new int[SIZE];
                tables[slot] = table;
            } else if (versions[slot] == town.version) {
                return;
            }
            lay(table, slot);
            shorten(table);
            versions[slot] = town.version;
        }

        int cost(int from, int to, int load) {
            int key = keyOf(from, to, load);
            return key >= FAR ? FAR : key >> STAIR_BITS;
        }

        /** There and back without load. */
        int trip(int from, int to) {
            return cost(from, to, 0) + cost(to, from, 0);
        }

        /** Goes the way, so that onWalk knows its places: how many, 0 if there is no way. */
        int walk(int from, int to, int load) {
            walked = 0;
            if (keyOf(from, to, load) >= FAR) {
                return 0;
            }
            int here = from;
            for (int i = 0; i < MOST_PLACES && here != NONE; i++) {
                row[i] = here;
                walked = i + 1;
                here = here == to ? NONE : following(here, to, load);
            }
            return walked;
        }

        int onWalk(int i) {
            return i >= 0 && i < walked ? row[i] : NONE;
        }

        /** A least way's first stair is the least way to where it leads, so that its key tells one stair. */
        private int following(int here, int to, int load) {
            int left = keyOf(here, to, load);
            for (int p = 0; p < town.places; p++) {
                int key = keyOf(here, p, load);
                if ((key & STAIR_MASK) == 1 && key + keyOf(p, to, load) == left) {
                    return p;
                }
            }
            return NONE;
        }

        /** A law without the letter l prices all loads alike: one table will do. */
        private int slotOf(int load) {
            return town.loadMatters() && load >= 0 && load <= MOST_LOAD ? load : 0;
        }

        private int keyOf(int from, int to, int load) {
            int[] table = tables[slotOf(load)];
            return table == null ? FAR : table[from * MOST_PLACES + to];
        }

        private void lay(int[] table, int load) {
            for (int i = 0; i < SIZE; i++) {
                table[i] = i % (MOST_PLACES + 1) == 0 ? 0 : FAR;
            }
            for (int s = 0; s < town.stairs; s++) {
                int a = town.firstOf(s);
                int b = town.secondOf(s);
                lower(table, a * MOST_PLACES + b, town.along(s, false, load));
                lower(table, b * MOST_PLACES + a, town.along(s, true, load));
            }
        }

        private static void lower(int[] table, int i, int cost) {
            if (cost >= 0) {
                table[i] = Math.min(table[i], (cost << STAIR_BITS) + 1);
            }
        }

        private void shorten(int[] table) {
            int n = town.places;
            for (int k = 0; k < n; k++) {
                for (int i = 0; i < n; i++) {
                    int first = table[i * MOST_PLACES + k];
                    if (first >= FAR || i == k) {
                        continue;
                    }
                    for (int j = 0; j < n; j++) {
                        int sum = first + table[k * MOST_PLACES + j];
                        if (sum < table[i * MOST_PLACES + j]) {
                            table[i * MOST_PLACES + j] = sum;
                        }
                    }
                }
            }
        }
    }

    /** Errands, and the rounds in which they are run. */
    static final class Rounds {
        private final Ways ways;
        private final int[] spots = new int[EIGHT];
        private final int[] weights = new int[EIGHT];
        private final int[] worths = new int[EIGHT];
        private final int[] order = new int[EIGHT];
        /** By the set that is done and the last errand of it. */
        private final int[] least = new int[256 * EIGHT];
        int told;

        Rounds(Ways ways) {
            this.ways = ways;
        }

        void tell(int i, int place, int weight, int worth) {
            spots[i] = place;
            weights[i] = weight;
            worths[i] = worth;
            told |= 1 << i;
        }

        int worthOf(int set) {
            int sum = 0;
            for (int i = 0; i < EIGHT; i++) {
                if ((set >> i & 1) != 0) {
                    sum += worths[i];
                }
            }
            return sum;
        }

        private int loadOf(int set) {
            int sum = 0;
            for (int i = 0; i < EIGHT; i++) {
                if ((set >> i & 1) != 0) {
                    sum += weights[i];
                }
            }
            return sum;
        }

        /** Looks after the ways under each load that a round of these errands may have. */
        void freshen(int set) {
            for (int done = 0; done <= set; done++) {
                if ((done & ~set) == 0) {
                    ways.freshen(loadOf(done));
                }
            }
        }

        /** False: one is not told, or twice in the row. */
        boolean readOrder(Tape tape, int n) {
            int seen = 0;
            for (int i = 0; i < n && i < EIGHT; i++) {
                int e = tape.byteAt(i);
                if (e < 0 || e >= EIGHT || (told >> e & 1) == 0 || (seen >> e & 1) != 0) {
                    return false;
                }
                seen |= 1 << e;
                order[i] = e;
            }
            return true;
        }

        int costInOrder(int home, int n) {
            int here = home;
            int load = 0;
            int sum = 0;
            for (int i = 0; i < n && i < EIGHT; i++) {
                ways.freshen(load);
                int e = order[i];
                sum += ways.cost(here, spots[e], load);
                here = spots[e];
                load += weights[e];
            }
            ways.freshen(load);
            return sum + ways.cost(here, home, load);
        }

        int separate(int home, int set) {
            int sum = 0;
            for (int i = 0; i < EIGHT; i++) {
                if ((set >> i & 1) != 0) {
                    sum += ways.cost(home, spots[i], 0) + ways.cost(spots[i], home, weights[i]);
                }
            }
            return sum;
        }

        /** What the best round costs; least then has what is still to be paid from each state on. */
        int finish(int home, int set) {
            for (int done = set; done > 0; done--) {
                if ((done & ~set) != 0) {
                    continue;
                }
                int load = loadOf(done);
                for (int last = 0; last < EIGHT; last++) {
                    if ((done >> last & 1) != 0) {
                        least[done * EIGHT + last] = done == set
                            ? ways.cost(spots[last], home, load)
                            : through(spots[last], done, load, firstBest(spots[last], set, done, load));
                    }
                }
            }
            return through(home, 0, 0, firstBest(home, set, 0, 0));
        }

        /** Behind finish: what is to be paid from a place on if an errand is the next one. */
        private int through(int here, int done, int load, int e) {
            if (e == NONE) {
                return FAR;
            }
            return ways.cost(here, spots[e], load) + least[(done | 1 << e) * EIGHT + e];
        }

        private int firstBest(int here, int set, int done, int load) {
            int found = NONE;
            int best = FAR;
            for (int e = 0; e < EIGHT; e++) {
                if (((set & ~done) >> e & 1) != 0) {
                    int sum = through(here, done, load, e);
                    if (sum < best) {
                        best = sum;
                        found = e;
                    }
                }
            }
            return found;
        }

        /** Behind finish: which errand stands at a place of the least of the best orders. */
        int inBestOrder(int home, int set, int place) {
            int here = home;
            int done = 0;
            int e = NONE;
            for (int i = 0; i <= place && i < EIGHT; i++) {
                e = firstBest(here, set, done, loadOf(done));
                if (e == NONE) {
                    return NONE;
                }
                here = spots[e];
                done |= 1 << e;
            }
            return e;
        }

        /** Least costs from home on for every set of told errands and the last one of it. */
        void spread(int home) {
            Arrays.fill(least, FAR);
            for (int e = 0; e < EIGHT; e++) {
                if ((told >> e & 1) != 0) {
                    least[(1 << e) * EIGHT + e] = ways.cost(home, spots[e], 0);
                }
            }
            for (int done = 1; done < told; done++) {
                if ((done & ~told) == 0) {
                    spreadFrom(done);
                }
            }
        }

        private void spreadFrom(int done) {
            int load = loadOf(done);
            for (int last = 0; last < EIGHT; last++) {
                int so = least[done * EIGHT + last];
                if (so >= FAR) {
                    continue;
                }
                for (int e = 0; e < EIGHT; e++) {
                    if (((told & ~done) >> e & 1) != 0) {
                        int i = (done | 1 << e) * EIGHT + e;
                        least[i] = Math.min(least[i], so + ways.cost(spots[last], spots[e], load));
                    }
                }
            }
        }

        /** Behind spread: the best round of a set. */
        int closed(int home, int set) {
            if (set == 0) {
                return 0;
            }
            int load = loadOf(set);
            int found = FAR;
            for (int last = 0; last < EIGHT; last++) {
                int so = least[set * EIGHT + last];
                if (so < FAR) {
                    found = Math.min(found, so + ways.cost(spots[last], home, load));
                }
            }
            return found;
        }

        /** Behind spread. */
        int setOfDay(int home, int steps) {
            int found = 0;
            int worth = 0;
            int cost = 0;
            for (int set = 1; set <= told; set++) {
                if ((set & ~told) != 0) {
                    continue;
                }
                int setCost = closed(home, set);
                int setWorth = worthOf(set);
                boolean better = setWorth > worth || setWorth == worth && setCost < cost;
                if (setCost <= steps && better) {
                    found = set;
                    worth = setWorth;
                    cost = setCost;
                }
            }
            return found;
        }
    }

    /** People, things, and who brings what. */
    static final class Folk {
        private static final int NOBODY = 8;
        /** One thing more sent outweighs whatever bringing can cost. */
        private static final int SENDING = 10000000;

        private final Ways ways;
        private final int[] begins = new int[EIGHT];
        private final int[] goals = new int[EIGHT];
        private final int[] carries = new int[EIGHT];
        private final int[] thingFrom = new int[EIGHT];
        private final int[] thingTo = new int[EIGHT];
        private final int[] thingWeight = new int[EIGHT];
        private final int[] bringings = new int[EIGHT * EIGHT];
        /** By the things still to be sent (from a number on) and the people who are taken. */
        private final int[] plan = new int[(EIGHT + 1) * 256];
        private final int[] senders = new int[EIGHT];
        int people;
        int things;

        Folk(Ways ways) {
            this.ways = ways;
        }

        int addPerson(int from, int to, int most) {
            if (people >= EIGHT) {
                return NONE;
            }
            begins[people] = from;
            goals[people] = to;
            carries[people] = most;
            people++;
            return people - 1;
        }

        int beginOf(int p) {
            return begins[p];
        }

        int goalOf(int p) {
            return goals[p];
        }

        int carriedBy(int p) {
            return carries[p];
        }

        void tellThing(int i, int from, int to, int weight) {
            thingFrom[i] = from;
            thingTo[i] = to;
            thingWeight[i] = weight;
            things |= 1 << i;
        }

        void freshen(int set) {
            ways.freshen(0);
            for (int i = 0; i < EIGHT; i++) {
                if ((set >> i & 1) != 0) {
                    ways.freshen(thingWeight[i]);
                }
            }
        }

        int bringing(int p, int i) {
            int own = ways.cost(begins[p], goals[p], 0);
            int round = ways.cost(begins[p], thingFrom[i], 0)
                + ways.cost(thingFrom[i], thingTo[i], thingWeight[i])
                + ways.cost(thingTo[i], goals[p], 0);
            return own >= FAR || round >= FAR ? NOT_BROUGHT : round - own;
        }

        /** Finds for each thing of a set who brings it. */
        void send(int set) {
            int all = 1 << people;
            for (int taken = 0; taken < all; taken++) {
                plan[EIGHT * 256 + taken] = 0;
            }
            for (int i = EIGHT - 1; i >= 0; i--) {
                boolean wanted = (set >> i & 1) != 0;
                for (int p = 0; p < people && wanted; p++) {
                    bringings[i * EIGHT + p] = bringing(p, i);
                }
                for (int taken = 0; taken < all; taken++) {
                    plan[i * 256 + taken] = wanted ? weigh(i, taken, bestSender(i, taken)) : plan[(i + 1) * 256 + taken];
                }
            }
            int taken = 0;
            for (int i = 0; i < EIGHT; i++) {
                boolean wanted = (set >> i & 1) != 0;
                senders[i] = wanted ? bestSender(i, taken) : NOBODY;
                if (senders[i] != NOBODY) {
                    taken |= 1 << senders[i];
                }
            }
        }

        /** The first of the best ones, so that the row is the least; nobody stands behind all. */
        private int bestSender(int i, int taken) {
            int found = NOBODY;
            int best = FAR;
            for (int p = 0; p < people; p++) {
                boolean can = (taken >> p & 1) == 0 && bringings[i * EIGHT + p] != NOT_BROUGHT;
                if (can && weigh(i, taken, p) < best) {
                    best = weigh(i, taken, p);
                    found = p;
                }
            }
            return weigh(i, taken, NOBODY) < best ? NOBODY : found;
        }

        private int weigh(int i, int taken, int p) {
            if (p == NOBODY) {
                return plan[(i + 1) * 256 + taken];
            }
            return bringings[i * EIGHT + p] - SENDING + plan[(i + 1) * 256 + (taken | 1 << p)];
        }

        /** Behind send. */
        int senderOf(int i) {
            return senders[i];
        }

        /** Behind send. */
        int sentOf(int set) {
            int n = 0;
            for (int i = 0; i < EIGHT; i++) {
                if ((set >> i & 1) != 0 && senders[i] != NOBODY) {
                    n++;
                }
            }
            return n;
        }

        /** Behind send. */
        int costOfSent(int set) {
            int sum = 0;
            for (int i = 0; i < EIGHT; i++) {
                if ((set >> i & 1) != 0 && senders[i] != NOBODY) {
                    sum += bringings[i * EIGHT + senders[i]];
                }
            }
            return sum;
        }
    }

    /** Water that people bring from a well. */
    static final class Wells {
        private final Town town;
        private final Ways ways;
        private final Folk folk;
        /** By place: the people who bring to it. */
        private final int[] bringers = new int[MOST_PLACES];
        private int lack;
        private int dry;

        Wells(Town town, Ways ways, Folk folk) {
            this.town = town;
            this.ways = ways;
            this.folk = folk;
        }

        int lacking() {
            return lack;
        }

        int drySet() {
            return dry;
        }

        /**
         * What some places want more than their bringers can carry lacks whatever is done, and the
         * most of that is all that lacks (the cut and the flow are one). Each set of places that
         * counts is all that want and have no bringer but some people: so the people are gone through.
         * Of like sets the fewest places are in all the others (for what two such sets share is one,
         * too), so are their bringers, and so these people come first by number.
         */
        void lookFrom(int well) {
            ways.freshen(0);
            findBringers(well);
            lack = 0;
            dry = 0;
            for (int some = 0; some < 1 << folk.people; some++) {
                int set = servedAloneBy(some);
                int more = wantedBy(set) - carriedBy(some);
                if (more > lack) {
                    lack = more;
                    dry = set;
                }
            }
        }

        private void findBringers(int well) {
            for (int p = 0; p < MOST_PLACES; p++) {
                bringers[p] = 0;
            }
            for (int q = 0; q < folk.people; q++) {
                int length = ways.walk(folk.beginOf(q), folk.goalOf(q), 0);
                boolean filled = false;
                for (int i = 0; i < length; i++) {
                    int here = ways.onWalk(i);
                    filled |= here == well;
                    if (filled && here != NONE) {
                        bringers[here] |= 1 << q;
                    }
                }
            }
        }

        private int servedAloneBy(int some) {
            int set = 0;
            for (int p = 0; p < town.places; p++) {
                if (town.wantedAt(p) > 0 && (bringers[p] & ~some) == 0) {
                    set |= 1 << p;
                }
            }
            return set;
        }

        private int wantedBy(int set) {
            int sum = 0;
            for (int p = 0; p < town.places; p++) {
                if ((set >> p & 1) != 0) {
                    sum += town.wantedAt(p);
                }
            }
            return sum;
        }

        private int carriedBy(int some) {
            int sum = 0;
            for (int q = 0; q < folk.people; q++) {
                if ((some >> q & 1) != 0) {
                    sum += folk.carriedBy(q);
                }
            }
            return sum;
        }
    }

    /** Shops, where all would have them and where each would put his own. */
    static final class Market {
        private final Town town;
        private final Ways ways;
        private final Folk folk;
        /** By person and place: there and back. */
        private final int[] trips = new int[EIGHT * MOST_PLACES];
        private final int[] spots = new int[MOST_SHOPS];

        Market(Town town, Ways ways, Folk folk) {
            this.town = town;
            this.ways = ways;
            this.folk = folk;
        }

        /** To be called before all else that asks for costs. */
        void measure() {
            ways.freshen(0);
            for (int q = 0; q < folk.people; q++) {
                for (int p = 0; p < town.places; p++) {
                    trips[q * MOST_PLACES + p] = ways.trip(folk.beginOf(q), p);
                }
            }
        }

        int spotOf(int i) {
            return i >= 0 && i < MOST_SHOPS ? spots[i] : NONE;
        }

        int costsOfSet(int set) {
            int n = 0;
            for (int p = 0; p < town.places && n < MOST_SHOPS; p++) {
                if ((set >> p & 1) != 0) {
                    spots[n] = p;
                    n++;
                }
            }
            return costs(spots[0], spots[n > 1 ? 1 : 0], spots[n > 2 ? 2 : 0]);
        }

        /** A place told twice is as good as once, so that three places serve for fewer shops too. */
        private int costs(int a, int b, int c) {
            int sum = 0;
            for (int q = 0; q < folk.people; q++) {
                int row = q * MOST_PLACES;
                int near = Math.min(trips[row + a], Math.min(trips[row + b], trips[row + c]));
                sum += near >= FAR ? STUCK : near;
            }
            return sum;
        }

        /** Puts n shops where it is best for all: what it costs then. */
        int settle(int n) {
            int best = FAR;
            int all = town.places;
            for (int a = 0; a < all; a++) {
                int bEnd = n > 1 ? all : a + 1;
                for (int b = n > 1 ? a + 1 : a; b < bEnd; b++) {
                    int cEnd = n > 2 ? all : b + 1;
                    for (int c = n > 2 ? b + 1 : b; c < cEnd; c++) {
                        int sum = costs(a, b, c);
                        if (sum < best) {
                            best = sum;
                            spots[0] = a;
                            spots[1] = b;
                            spots[2] = c;
                        }
                    }
                }
            }
            return best;
        }

        /** Opens n shops at told places; false: there are no such places. */
        boolean open(int abc, int n) {
            int rest = abc;
            for (int i = 0; i < n && i < MOST_SHOPS; i++) {
                if (rest < 0 || !town.isPlace(rest % MOST_PLACES)) {
                    return false;
                }
                spots[i] = rest % MOST_PLACES;
                rest /= MOST_PLACES;
            }
            return rest == 0;
        }

        /** Moves the shops by turns: in how many rounds some moved. */
        int moveAll(int n) {
            int rounds = 0;
            boolean moving = true;
            while (moving && rounds < MOST_TURNS) {
                moving = false;
                for (int i = 0; i < n; i++) {
                    int to = likedSpot(i, n);
                    moving |= to != spots[i];
                    spots[i] = to;
                }
                if (moving) {
                    rounds++;
                }
            }
            return rounds;
        }

        private int likedSpot(int i, int n) {
            int own = spots[i];
            int found = own;
            int most = comersTo(i, n);
            for (int p = 0; p < town.places; p++) {
                spots[i] = p;
                int come = comersTo(i, n);
                if (come > most) {
                    most = come;
                    found = p;
                }
            }
            spots[i] = own;
            return found;
        }

        int comersTo(int i, int n) {
            int come = 0;
            for (int q = 0; q < folk.people; q++) {
                if (nearestTo(q, n) == i) {
                    come++;
                }
            }
            return come;
        }

        private int nearestTo(int q, int n) {
            int found = NONE;
            int least = FAR;
            for (int i = 0; i < n && i < MOST_SHOPS; i++) {
                int trip = trips[q * MOST_PLACES + spots[i]];
                if (trip < least) {
                    least = trip;
                    found = i;
                }
            }
            return found;
        }
    }

    /** Plans the one stair more that saves most. */
    static final class Mason {
        private final Town town;
        private final Ways ways;
        private final Folk folk;
        private int first;
        private int second;
        private int costs;

        Mason(Town town, Ways ways, Folk folk) {
            this.town = town;
            this.ways = ways;
            this.folk = folk;
        }

        int planned(int what) {
            if (what == 2) {
                return costs;
            }
            return what == 0 ? first : second;
        }

        void plan(int sort) {
            ways.freshen(0);
            costs = FAR;
            for (int a = 0; a < town.places; a++) {
                for (int b = sort == SLIDE ? 0 : a + 1; b < town.places; b++) {
                    if (a == b || sort == SLIDE && !town.isSlope(a, b)) {
                        continue;
                    }
                    int sum = costsWith(a, b, sort);
                    if (sum < costs) {
                        costs = sum;
                        first = a;
                        second = b;
                    }
                }
            }
        }

        /** A least way goes along the new stair once at most: so the old costs tell the new ones. */
        private int costsWith(int a, int b, int sort) {
            int there = town.alongNew(a, b, sort);
            int back = sort == SLIDE ? NO_WAY : town.alongNew(b, a, sort);
            int sum = 0;
            for (int q = 0; q < folk.people; q++) {
                int from = folk.beginOf(q);
                int to = folk.goalOf(q);
                int least = ways.cost(from, to, 0);
                if (there >= 0) {
                    least = Math.min(least, ways.cost(from, a, 0) + there + ways.cost(b, to, 0));
                }
                if (back >= 0) {
                    least = Math.min(least, ways.cost(from, b, 0) + back + ways.cost(a, to, 0));
                }
                sum += least >= FAR ? STUCK : least;
            }
            return sum;
        }
    }

    /** What fares tell of heights. Places that fares join are in one group and at levels in it. */
    static final class Fares {
        private final int[] groups = new int[MOST_PLACES];
        private final int[] levels = new int[MOST_PLACES];
        private final int[] untrueOnes = new int[MOST_FARES];
        int told;
        int untrue;

        Fares() {
            for (int p = 0; p < MOST_PLACES; p++) {
                groups[p] = p;
            }
        }

        int add(int a, int b, int steps) {
            if (told >= MOST_FARES) {
                return NONE;
            }
            if (groups[a] != groups[b]) {
                join(groups[a], groups[b], levels[a] + steps - levels[b]);
            } else if (levels[b] - levels[a] != steps) {
                untrueOnes[untrue] = told;
                untrue++;
            }
            told++;
            return told;
        }

        private void join(int group, int other, int lift) {
            for (int p = 0; p < MOST_PLACES; p++) {
                if (groups[p] == other) {
                    groups[p] = group;
                    levels[p] += lift;
                }
            }
        }

        int apart(int a, int b) {
            return groups[a] == groups[b] ? levels[b] - levels[a] : NOT_TOLD;
        }

        int untrueAt(int i) {
            return i >= 0 && i < untrue ? untrueOnes[i] : NONE;
        }
    }
}
