import java.util.Arrays;
import java.util.NoSuchElementException;

/**
 * The storm loft of an old theatre: balls on runs of boards, machines, scores, men, and what they
 * need. Every call reads its bytes from one tape, and the tape is empty behind it.
 */
public final class StormLoft {
    public static final int NONE = -1;

    private static final int CANNOT = -2;
    private static final int PIT = 255;
    private static final int BOARDS = 16;
    private static final int PLACES = 12;
    private static final int RUNS = 4;
    private static final int MACHINES = 12;
    private static final int MEN = 4;
    private static final int EVENTS = 24;
    private static final int FARTHEST = 99;
    private static final int FALL_TICKS = 2000;

    private static final int HEAD = 0;
    private static final int BARREL = 1;
    private static final int DRUM = 2;
    private static final int SHEET = 3;
    private static final int GATE = 4;

    private final Tape tape = new Tape();
    private final Board[] stock = new Board[BOARDS];
    private final Path[] runs = new Path[RUNS];
    private final Machines machines = new Machines();
    private final Crew crew = new Crew();
    private final Reader reader = new Reader();
    private final Plan plan = new Plan();
    private final Fall heardFall = new Fall();
    private final Fall triedFall = new Fall();
    private final Night playing = new Night();
    private final Carpenter carpenter = new Carpenter();
    private int boards = 0;

    public StormLoft() {
        for (int r = 0; r < RUNS; r++) {
            runs[r] = new Path();
        }
    }

    public int feed(int a, int b, int c, int d, int e) {
        return tape.take(a, b, c, d, e);
    }

    public boolean end(int n) {
        return tape.cut(n);
    }

    public int board(int length, int slope, int rough, int drop, int turn) {
        boolean told = within(length, 1, 40) && within(slope, -9, 30) && within(rough, 0, 15)
                && within(drop, 0, 9) && within(turn, 0, 8);
        if (!told || boards < 0 || boards >= BOARDS) {
            return NONE;
        }
        stock[boards] = new Board(length, slope, rough, drop, turn);
        boards++;
        return boards - 1;
    }

    public int run(int r) {
        int places = NONE;
        if (within(r, 0, RUNS - 1) && Path.isTold(tape, boards)) {
            Path path = runs[r];
            if (path != null) {
                path.build(tape, stock);
                places = path.size;
            }
        }
        tape.clear();
        return places;
    }

    public int fall(int r, int gates, int what) {
        Path path = pathOf(r);
        if (path == null || !within(what, 0, 3)) {
            return CANNOT;
        }
        heardFall.follow(path, gates);
        return heardFall.answer(what);
    }

    public int knock(int k, int what) throws NoSuchElementException {
        if (!within(k, 0, heardFall.knocks - 1) || !within(what, 0, 2)) {
            throw new NoSuchElementException("no such KNOCK");
        }
        return heardFall.knockAt(k, what);
    }

    public int machine(int kind, int x, int a, int b) {
        if (machines.size >= MACHINES) {
            return NONE - 1;
        }
        if (!within(kind, HEAD, GATE) || !within(x, 0, FARTHEST)) {
            return NONE - 2;
        }
        if (!canStand(kind, a, b)) {
            return NONE - 3;
        }
        return machines.add(kind, x, a, b);
    }

    public int man(int x) {
        return within(x, 0, FARTHEST) ? crew.add(x) : NONE;
    }

    public int score() {
        int answer;
        if (reader.understands(tape, machines)) {
            plan.becomes(reader.top);
            crew.forget();
            answer = plan.size;
        } else {
            answer = NONE - reader.faultPlace;
        }
        tape.clear();
        return answer;
    }

    public int fault() {
        return reader.faultKind;
    }

    public int event(int e, int what) throws NoSuchElementException {
        if (!within(e, 0, plan.size - 1) || !within(what, 0, 4)) {
            throw new NoSuchElementException("no such EVENT");
        }
        int m = plan.machineOf(e);
        int number = plan.numberOf(e);
        switch (what) {
            case 0:
                return plan.tickOf(e);
            case 1:
                return m;
            case 2:
                return number;
            case 3:
                return machines.takes(m, number);
            default:
                return machines.strength(m, number);
        }
    }

    public int night() {
        playing.goThrough(plan, machines, runs);
        return playing.kept;
    }

    public int sound(int k, int what) throws NoSuchElementException {
        if (!within(k, 0, playing.kept - 1) || !within(what, 0, 2)) {
            throw new NoSuchElementException("no such SOUND");
        }
        return playing.soundAt(k, what);
    }

    public int told(int what) {
        switch (what) {
            case 0:
                return playing.letGo;
            case 1:
                return playing.ended;
            case 2:
                return playing.bumps;
            case 3:
                return playing.all;
            case 4:
                return playing.loudness;
            default:
                return NONE;
        }
    }

    public int made() {
        return crew.makeMost(plan, machines);
    }

    public int who(int e) {
        return within(e, 0, plan.size - 1) ? crew.doerOf(e) : NONE;
    }

    public int balls(int r, int back) {
        Path path = pathOf(r);
        if (path == null || !within(back, 0, 1000)) {
            return NONE;
        }
        triedFall.follow(path, 0);
        if (triedFall.end == NONE) {
            return CANNOT;
        }
        return machines.ballsNeeded(plan, r, triedFall.end + back);
    }

    public int fillings(int machine) {
        return machines.kindOf(machine) == BARREL ? machines.fillingsNeeded(plan, machine) : NONE;
    }

    public int lay(int boards) {
        int answer = NONE;
        if (within(boards, 1, Carpenter.LAID_MOST) && this.boards > 0 && tape.readTicks()) {
            answer = carpenter.layLikest(stock, this.boards, boards, tape);
        }
        tape.clear();
        return answer;
    }

    public int laid(int k) {
        return carpenter.laidAt(k);
    }

    public int worn(int r) {
        int answer = NONE;
        Path path = pathOf(r);
        if (path != null && tape.readTicks()) {
            answer = carpenter.explain(path, tape);
        }
        tape.clear();
        return answer;
    }

    public int count(int what) {
        switch (what) {
            case 0:
                return boards;
            case 1:
                return runsThatAre();
            case 2:
                return machines.size;
            case 3:
                return crew.size;
            case 4:
                return plan.size;
            case 5:
                return tape.size;
            default:
                return NONE;
        }
    }

    private static boolean within(int n, int least, int most) {
        return n >= least && n <= most;
    }

    /** The RUN of that number; null: none, also one of no PLACES. */
    private Path pathOf(int r) {
        if (!within(r, 0, RUNS - 1)) {
            return null;
        }
        Path path = runs[r];
        return path == null || path.size == 0 ? null : path;
    }

    private int runsThatAre() {
        int n = 0;
        for (int r = 0; r < RUNS; r++) {
            if (pathOf(r) != null) {
                n++;
            }
        }
        return n;
    }

    private boolean canStand(int kind, int a, int b) {
        if (kind == HEAD) {
            return pathOf(a) != null;
        }
        if (kind == GATE) {
            Path path = pathOf(a);
            return path != null && within(b, 0, path.size - 1);
        }
        return kind != BARREL || within(a, 1, 99) && within(b, 1, 200);
    }

    /** The tape, and what can be read from it: TOKENS of a text, or rising TICKS. */
    private static final class Tape {
        static final int MOST = 640;
        static final int TEXT_MOST = 600;
        static final int TICKS_MOST = 10;

        static final int END = 0;
        static final int WORD = 1;
        static final int NUMBER = 2;
        static final int SEMICOLON = 3;
        static final int UNKNOWN = 4;

        private final int[] bytes = new int[MOST];
        int size = 0;
        private final int[] ticks = new int[TICKS_MOST];
        int tickCount = 0;
        private int at = 0;
        int kind = END;
        int start = 0;
        int stop = 0;
        int value = 0;

        int take(int a, int b, int c, int d, int e) {
            if (size > MOST - 20) {
                return NONE;
            }
            put(a);
            put(b);
            put(c);
            put(d);
            put(e);
            return size;
        }

        private void put(int n) {
            for (int shift = 24; shift >= 0; shift -= 8) {
                if (size >= 0 && size < MOST) {
                    bytes[size] = n >>> shift & 255;
                    size++;
                }
            }
        }

        boolean cut(int n) {
            if (n < 0 || n > size) {
                return false;
            }
            size = n;
            return true;
        }

        void clear() {
            size = 0;
        }

        int byteAt(int i) {
            return i >= 0 && i < size && i < MOST ? bytes[i] : 0;
        }

        /** Reads the TICKS told on the tape; false: they are not as told. */
        boolean readTicks() {
            tickCount = 0;
            if (size % 2 != 0 || size > 2 * TICKS_MOST) {
                return false;
            }
            int last = NONE;
            for (int i = 0; i < TICKS_MOST && 2 * i < size; i++) {
                int tick = byteAt(2 * i) * 256 + byteAt(2 * i + 1);
                if (tick <= last) {
                    return false;
                }
                ticks[i] = tick;
                tickCount = i + 1;
                last = tick;
            }
            return true;
        }

        int tickAt(int k) {
            return k >= 0 && k < tickCount && k < TICKS_MOST ? ticks[k] : NONE;
        }

        void rewind() {
            at = 0;
        }

        /** The next TOKEN; behind the last one, and from the place where a text is too long, END. */
        void nextToken() {
            int limit = Math.min(size, TEXT_MOST);
            while (at < limit && isBlank(byteAt(at))) {
                at++;
            }
            if (at >= limit) {
                kind = END;
                start = limit;
                stop = limit;
                return;
            }
            start = at;
            if (byteAt(at) == ';') {
                kind = SEMICOLON;
                at++;
            } else {
                readLettersAndDigits();
            }
            stop = at;
        }

        private void readLettersAndDigits() {
            int letters = 0;
            int digits = 0;
            value = 0;
            while (at < size && (isLetter(byteAt(at)) || isDigit(byteAt(at)))) {
                if (isDigit(byteAt(at))) {
                    digits++;
                    value = digits > 4 ? 0 : value * 10 + byteAt(at) - '0';
                } else {
                    letters++;
                }
                at++;
            }
            if (digits == 0 && letters >= 1 && letters <= 8) {
                kind = WORD;
            } else if (letters == 0 && digits >= 1 && digits <= 4) {
                kind = NUMBER;
            } else {
                kind = UNKNOWN;
            }
        }

        private static boolean isBlank(int c) {
            return c == 32 || c == 10;
        }

        private static boolean isLetter(int c) {
            return c >= 'a' && c <= 'z';
        }

        private static boolean isDigit(int c) {
            return c >= '0' && c <= '9';
        }

        boolean isWord(String word) {
            if (kind != WORD || stop - start != word.length()) {
                return false;
            }
            for (int i = 0; i < word.length(); i++) {
                if (byteAt(start + i) != word.charAt(i)) {
                    return false;
                }
            }
            return true;
        }

        /** Whether the TOKEN is the same word as the one that stood from there to there. */
        boolean isWordAt(int from, int to) {
            if (kind != WORD || stop - start != to - from) {
                return false;
            }
            for (int i = 0; i < to - from; i++) {
                if (byteAt(start + i) != byteAt(from + i)) {
                    return false;
                }
            }
            return true;
        }
    }

    private static final class Board {
        final int parts;
        final int slope;
        final int rough;
        final int drop;
        final int turn;

        Board(int length, int slope, int rough, int drop, int turn) {
            this.parts = 64 * length;
            this.slope = slope;
            this.rough = rough;
            this.drop = drop;
            this.turn = turn;
        }
    }

    private static final class Ball {
        int run = 0;
        int place = 0;
        int part = 0;
        int speed = 0;
        int placeAhead = 0;
        int partAhead = 0;

        void letGoOn(int r) {
            run = r;
            put(0, 0, 0);
        }

        void put(int newPlace, int newPart, int newSpeed) {
            place = newPlace;
            part = newPart;
            speed = newSpeed;
            placeAhead = newPlace;
            partAhead = newPart;
        }

        /** One TICK on a BOARD; true: it has come over its lower end. */
        boolean rollsOver(Board board) {
            placeAhead = place;
            partAhead = part;
            int faster = speed + board.slope;
            faster -= faster * board.rough / 64;
            speed = Math.max(0, Math.min(faster, 1023));
            part += speed;
            return part >= board.parts;
        }

        /** Leaves a BOARD over a step of that DROP, which need not be the BOARD's: how strong it knocks. */
        int fallsOff(Board board, int drop) {
            int strength = drop * speed / 64;
            speed -= speed * board.turn / 16;
            part += drop * speed / 8 - board.parts;
            return strength;
        }

        /** Without SPEED behind a TICK it can only be on a BOARD that gives it none in any later one. */
        boolean isAtRest() {
            return speed == 0;
        }

        boolean overtook(Ball other) {
            return partAhead < other.partAhead && part > other.part;
        }

        boolean stayedWith(Ball other) {
            return place != PIT && run == other.run && place == other.place
                    && placeAhead == place && other.placeAhead == place;
        }
    }

    /** A RUN: the BOARD of each PLACE, and where one goes on from it. */
    private static final class Path {
        private final Board[] boards = new Board[PLACES];
        private final int[] straight = new int[PLACES];
        private final int[] turned = new int[PLACES];
        int size = 0;

        static boolean isTold(Tape tape, int stockSize) {
            int places = tape.size / 3;
            if (tape.size % 3 != 0 || places < 1 || places > PLACES) {
                return false;
            }
            for (int p = 0; p < places; p++) {
                if (tape.byteAt(3 * p) >= stockSize || !leadsOn(tape.byteAt(3 * p + 1), p, places)
                        || !leadsOn(tape.byteAt(3 * p + 2), p, places)) {
                    return false;
                }
            }
            return true;
        }

        private static boolean leadsOn(int to, int place, int places) {
            return to == PIT || to > place && to < places;
        }

        void build(Tape tape, Board[] stock) {
            size = Math.min(tape.size / 3, PLACES);
            for (int p = 0; p < size; p++) {
                int b = tape.byteAt(3 * p);
                boards[p] = b < stock.length ? stock[b] : null;
                straight[p] = tape.byteAt(3 * p + 1);
                turned[p] = tape.byteAt(3 * p + 2);
            }
        }

        /** The BOARD of a PLACE; null: THE PIT. */
        Board boardAt(int place) {
            return place >= 0 && place < size && place < PLACES ? boards[place] : null;
        }

        private int leadsTo(int place, int gates) {
            if (place < 0 || place >= size || place >= PLACES) {
                return PIT;
            }
            return (gates >>> place & 1) == 0 ? straight[place] : turned[place];
        }

        /** Brings a ball that has left its PLACE to the one on which it stays: how many it jumped. */
        int carryOn(Ball ball, int gates) {
            int jumped = 0;
            int place = leadsTo(ball.place, gates);
            for (int i = 0; i < PLACES; i++) {
                Board board = boardAt(place);
                if (board == null || ball.part < board.parts) {
                    break;
                }
                ball.part -= board.parts;
                jumped++;
                place = leadsTo(place, gates);
            }
            ball.place = place;
            return jumped;
        }
    }

    /** The FALL of a RUN. Its KNOCKS are no more than its PLACES, since each is left once at most. */
    private static final class Fall {
        private final int[] tick = new int[PLACES];
        private final int[] place = new int[PLACES];
        private final int[] strong = new int[PLACES];
        private final Ball ball = new Ball();
        int knocks = 0;
        int end = NONE;
        private int jumped = 0;
        private int fastest = 0;

        void follow(Path path, int gates) {
            knocks = 0;
            end = NONE;
            jumped = 0;
            fastest = 0;
            ball.letGoOn(0);
            for (int t = 1; t <= FALL_TICKS; t++) {
                Board board = path.boardAt(ball.place);
                if (board == null) {
                    return;
                }
                if (ball.rollsOver(board)) {
                    hear(t, ball.place, ball.fallsOff(board, board.drop));
                    jumped += path.carryOn(ball, gates);
                }
                fastest = Math.max(fastest, ball.speed);
                if (ball.place == PIT) {
                    end = t;
                    return;
                }
                if (ball.isAtRest()) {
                    return;
                }
            }
        }

        private void hear(int t, int from, int strength) {
            if (strength > 0 && knocks >= 0 && knocks < PLACES) {
                tick[knocks] = t;
                place[knocks] = from;
                strong[knocks] = strength;
                knocks++;
            }
        }

        int answer(int what) {
            switch (what) {
                case 0:
                    return end;
                case 1:
                    return knocks;
                case 2:
                    return jumped;
                default:
                    return fastest;
            }
        }

        int knockAt(int k, int what) {
            if (k < 0 || k >= PLACES) {
                return NONE;
            }
            return what == 0 ? tick[k] : what == 1 ? place[k] : strong[k];
        }
    }

    /** The MACHINES, and what their EVENTS take of men, balls and stones. */
    private static final class Machines {
        private final int[] kind = new int[MACHINES];
        private final int[] x = new int[MACHINES];
        private final int[] a = new int[MACHINES];
        private final int[] b = new int[MACHINES];
        int size = 0;

        int add(int newKind, int newX, int newA, int newB) {
            if (size < 0 || size >= MACHINES) {
                return NONE;
            }
            kind[size] = newKind;
            x[size] = newX;
            a[size] = newA;
            b[size] = newB;
            size++;
            return size - 1;
        }

        private boolean is(int m) {
            return m >= 0 && m < size && m < MACHINES;
        }

        int kindOf(int m) {
            return is(m) ? kind[m] : NONE;
        }

        int placeOf(int m) {
            return is(m) ? x[m] : 0;
        }

        int firstOf(int m) {
            return is(m) ? a[m] : NONE;
        }

        int secondOf(int m) {
            return is(m) ? b[m] : NONE;
        }

        int leastNumber(int m) {
            int k = kindOf(m);
            return k == HEAD || k == GATE ? 0 : 1;
        }

        int mostNumber(int m) {
            switch (kindOf(m)) {
                case HEAD:
                    return 9999;
                case BARREL:
                case SHEET:
                    return 99;
                case DRUM:
                    return 500;
                default:
                    return 1;
            }
        }

        int takes(int m, int number) {
            switch (kindOf(m)) {
                case BARREL:
                    return 4 * number;
                case DRUM:
                    return number;
                default:
                    return 1;
            }
        }

        int strength(int m, int number) {
            int k = kindOf(m);
            return k == HEAD || k == GATE ? 1 : number;
        }

        /** The most balls of a RUN that are away at once, if each is away so many TICKS. */
        int ballsNeeded(Plan plan, int run, int away) {
            int most = 0;
            for (int e = 0; e < plan.size; e++) {
                int open = 0;
                for (int f = 0; f <= e && letsGo(plan, e, run); f++) {
                    if (letsGo(plan, f, run) && plan.tickOf(f) + away > plan.tickOf(e)) {
                        open++;
                    }
                }
                most = Math.max(most, open);
            }
            return most;
        }

        private boolean letsGo(Plan plan, int e, int run) {
            int m = plan.machineOf(e);
            return kindOf(m) == HEAD && firstOf(m) == run;
        }

        /** Fills as late as can be, and only when turns lack: no way needs fewer fillings. */
        int fillingsNeeded(Plan plan, int barrel) {
            int full = firstOf(barrel);
            int left = full;
            int sinceChance = NONE;
            int still = 0;
            int fills = 0;
            for (int e = 0; e < plan.size; e++) {
                if (plan.machineOf(e) != barrel) {
                    continue;
                }
                int turns = plan.numberOf(e);
                if (plan.tickOf(e) - still >= secondOf(barrel)) {
                    sinceChance = 0;
                }
                if (left < turns) {
                    if (sinceChance == NONE || full - sinceChance < turns) {
                        return CANNOT;
                    }
                    fills++;
                    left = full - sinceChance;
                    sinceChance = NONE;
                }
                left -= turns;
                if (sinceChance != NONE) {
                    sinceChance += turns;
                }
                still = Math.max(still, plan.tickOf(e) + takes(barrel, turns));
            }
            return fills;
        }
    }

    /** EVENTS: those of the SCORE, or of a part of it while it is read. */
    private static final class Plan {
        private final int[] tick = new int[EVENTS];
        private final int[] machine = new int[EVENTS];
        private final int[] number = new int[EVENTS];
        int size = 0;
        /** There would be more than are kept. */
        boolean over = false;

        void clear() {
            size = 0;
            over = false;
        }

        private boolean is(int e) {
            return e >= 0 && e < size && e < EVENTS;
        }

        int tickOf(int e) {
            return is(e) ? tick[e] : NONE;
        }

        int machineOf(int e) {
            return is(e) ? machine[e] : NONE;
        }

        int numberOf(int e) {
            return is(e) ? number[e] : NONE;
        }

        void add(int t, int m, int n) {
            if (size < 0 || size >= EVENTS) {
                over = true;
                return;
            }
            tick[size] = t;
            machine[size] = m;
            number[size] = n;
            size++;
        }

        void addAll(Plan other, int later) {
            over = over || other.over;
            for (int e = 0; e < other.size; e++) {
                add(other.tickOf(e) + later, other.machineOf(e), other.numberOf(e));
            }
        }

        /** What came from that EVENT on is done so often in all, each time so much later. */
        void repeat(int from, int times, int every) {
            int to = size;
            for (int i = 1; i < times; i++) {
                for (int e = from; e < to; e++) {
                    add(tickOf(e) + i * every, machineOf(e), numberOf(e));
                }
            }
        }

        int lastTick() {
            int last = 0;
            for (int e = 0; e < size; e++) {
                last = Math.max(last, tickOf(e));
            }
            return last;
        }

        void becomes(Plan other) {
            clear();
            addAll(other, 0);
            for (int e = 1; e < size; e++) {
                sink(e);
            }
        }

        /** Only past EVENTS of later TICKS, since those of one TICK stay as they came. */
        private void sink(int from) {
            for (int e = from; e > 0 && tickOf(e - 1) > tickOf(e); e--) {
                swap(tick, e);
                swap(machine, e);
                swap(number, e);
            }
        }

        private static void swap(int[] row, int e) {
            if (e > 0 && e < row.length) {
                int ahead = row[e - 1];
                row[e - 1] = row[e];
                row[e] = ahead;
            }
        }
    }

    /** Reads a SCORE. A storm's EVENTS are laid out when it is told, so that a play only copies them. */
    private static final class Reader {
        private static final int STORMS = 8;
        private static final int NESTED = 4;
        private static final int LAST_TICK = 4000;

        final Plan top = new Plan();
        private final Plan[] storms = new Plan[STORMS];
        private final int[] nameStart = new int[STORMS];
        private final int[] nameStop = new int[STORMS];
        private int stormCount = 0;
        private Plan current = top;
        private final int[] timesFrom = new int[NESTED];
        private final int[] timesMany = new int[NESTED];
        private final int[] timesEvery = new int[NESTED];
        private int open = 0;
        int faultKind = 0;
        int faultPlace = 0;

        Reader() {
            for (int s = 0; s < STORMS; s++) {
                storms[s] = new Plan();
            }
        }

        /** Whether the text on the tape is without a FAULT; its EVENTS are at the top then. */
        boolean understands(Tape tape, Machines machines) {
            begin(tape);
            for (int i = 0; i <= Tape.MOST && faultKind == 0; i++) {
                tape.nextToken();
                if (tape.isWord("at")) {
                    readUse(tape, machines);
                } else if (tape.isWord("times")) {
                    readTimes(tape);
                } else if (tape.isWord("play")) {
                    readPlay(tape);
                } else if (tape.isWord("storm")) {
                    readStorm(tape);
                } else if (tape.isWord("end")) {
                    close(tape);
                } else if (tape.kind == Tape.END && open == 0 && current == top) {
                    break;
                } else {
                    fail(1, tape.start);
                }
            }
            if (faultKind == 0 && tape.size > Tape.TEXT_MOST) {
                fail(1, Tape.TEXT_MOST);
            }
            if (faultKind == 0 && (top.over || top.lastTick() > LAST_TICK)) {
                fail(4, tape.size);
            }
            return faultKind == 0;
        }

        private void begin(Tape tape) {
            tape.rewind();
            top.clear();
            current = top;
            stormCount = 0;
            open = 0;
            faultKind = 0;
            faultPlace = 0;
        }

        private void fail(int kind, int place) {
            if (faultKind == 0) {
                faultKind = kind;
                faultPlace = place;
            }
        }

        private void readUse(Tape tape, Machines machines) {
            int tick = readNumber(tape, 0, 2000);
            readWord(tape, "use");
            int machine = readNumber(tape, 0, machines.size - 1);
            int number = 1;
            if (faultKind == 0) {
                tape.nextToken();
                if (tape.isWord("with")) {
                    number = readNumber(tape, machines.leastNumber(machine), machines.mostNumber(machine));
                    readSemicolon(tape);
                } else if (tape.kind != Tape.SEMICOLON) {
                    fail(1, tape.start);
                }
            }
            if (faultKind == 0) {
                current.add(tick, machine, number);
            }
        }

        private void readTimes(Tape tape) {
            if (open < 0 || open >= NESTED) {
                fail(3, tape.start);
                return;
            }
            int many = readNumber(tape, 1, 20);
            readWord(tape, "every");
            int every = readNumber(tape, 1, 2000);
            if (faultKind == 0) {
                timesFrom[open] = current.size;
                timesMany[open] = many;
                timesEvery[open] = every;
                open++;
            }
        }

        private void readPlay(Tape tape) {
            tape.nextToken();
            int storm = findStorm(tape);
            if (!isName(tape)) {
                fail(1, tape.start);
            } else if (storm == NONE) {
                fail(3, tape.start);
            }
            readWord(tape, "at");
            int later = readNumber(tape, 0, 2000);
            readSemicolon(tape);
            Plan played = stormAt(storm);
            if (faultKind == 0 && played != null) {
                current.addAll(played, later);
            }
        }

        private void readStorm(Tape tape) {
            if (current != top || open > 0) {
                fail(1, tape.start);
                return;
            }
            Plan storm = stormAt(stormCount);
            if (storm == null) {
                fail(3, tape.start);
                return;
            }
            tape.nextToken();
            if (!isName(tape)) {
                fail(1, tape.start);
            } else if (findStorm(tape) != NONE) {
                fail(3, tape.start);
            } else {
                nameStart[stormCount] = tape.start;
                nameStop[stormCount] = tape.stop;
                storm.clear();
                current = storm;
            }
        }

        /** A storm counts as told from its end on, so that it can't be played in itself. */
        private void close(Tape tape) {
            if (open > 0 && open <= NESTED) {
                open--;
                current.repeat(timesFrom[open], timesMany[open], timesEvery[open]);
            } else if (current != top) {
                current = top;
                stormCount++;
            } else {
                fail(1, tape.start);
            }
        }

        private Plan stormAt(int s) {
            return s >= 0 && s < STORMS ? storms[s] : null;
        }

        private int findStorm(Tape tape) {
            for (int s = 0; s < stormCount && s < STORMS; s++) {
                if (tape.isWordAt(nameStart[s], nameStop[s])) {
                    return s;
                }
            }
            return NONE;
        }

        private static boolean isName(Tape tape) {
            boolean kept = tape.isWord("storm") || tape.isWord("end") || tape.isWord("at")
                    || tape.isWord("use") || tape.isWord("with") || tape.isWord("times")
                    || tape.isWord("every") || tape.isWord("play");
            return tape.kind == Tape.WORD && !kept;
        }

        private void readWord(Tape tape, String word) {
            if (faultKind == 0) {
                tape.nextToken();
                if (!tape.isWord(word)) {
                    fail(1, tape.start);
                }
            }
        }

        private void readSemicolon(Tape tape) {
            if (faultKind == 0) {
                tape.nextToken();
                if (tape.kind != Tape.SEMICOLON) {
                    fail(1, tape.start);
                }
            }
        }

        private int readNumber(Tape tape, int least, int most) {
            if (faultKind != 0) {
                return NONE;
            }
            tape.nextToken();
            if (tape.kind != Tape.NUMBER) {
                fail(1, tape.start);
            } else if (tape.value < least || tape.value > most) {
                fail(2, tape.start);
            }
            return tape.value;
        }
    }

    /**
     * The MEN, and the most that they make: who goes from where to which EVENT is an assignment of
     * least cost. A row is a man ahead of his first EVENT or behind an EVENT; a column is the EVENT
     * that comes next for the row, or none any more. An EVENT that nobody does is next to itself.
     */
    private static final class Crew {
        private static final int MOST = MEN + EVENTS;
        private static final int NEVER = 1000000;
        private static final int FAR = 100000000;

        private final int[] home = new int[MEN];
        int size = 0;
        private final int[] doer = new int[EVENTS];
        private final int[][] cost = new int[MOST][MOST];
        private final int[] rowPrice = new int[MOST];
        private final int[] columnPrice = new int[MOST];
        private final int[] columnOf = new int[MOST];
        private final int[] rowOf = new int[MOST];
        private final int[] slack = new int[MOST];
        private final int[] cameFrom = new int[MOST];
        private final int[] seen = new int[MOST];
        private final int[] settled = new int[MOST];
        private final int[] queue = new int[MOST];
        private final int[] standsAt = new int[MEN];
        private int events = 0;
        private int side = 0;

        Crew() {
            forget();
        }

        void forget() {
            Arrays.fill(doer, NONE);
        }

        int add(int x) {
            if (size < 0 || size >= MEN) {
                return NONE;
            }
            home[size] = x;
            size++;
            return size - 1;
        }

        int doerOf(int e) {
            return e >= 0 && e < EVENTS ? doer[e] : NONE;
        }

        int makeMost(Plan plan, Machines machines) {
            events = Math.min(plan.size, EVENTS);
            side = Math.min(size + events, MOST);
            for (int row = 0; row < side; row++) {
                for (int column = 0; column < side; column++) {
                    cost[row][column] = costOf(row, column, plan, machines);
                }
            }
            assignAll();
            chooseFirst();
            int worth = 0;
            for (int e = 0; e < events; e++) {
                if (doer[e] != NONE) {
                    worth += machines.strength(plan.machineOf(e), plan.numberOf(e));
                }
            }
            return worth;
        }

        private int costOf(int row, int column, Plan plan, Machines machines) {
            int event = row - size;
            if (column >= events || column == event) {
                return 0;
            }
            int target = plan.machineOf(column);
            int x = machines.placeOf(target);
            int ready;
            if (row < size) {
                ready = row < MEN ? Math.abs(home[row] - x) : NEVER;
            } else {
                int source = plan.machineOf(event);
                ready = plan.tickOf(event) + machines.takes(source, plan.numberOf(event))
                        + Math.abs(machines.placeOf(source) - x);
            }
            return ready <= plan.tickOf(column) ? -machines.strength(target, plan.numberOf(column)) : NEVER;
        }

        private void assignAll() {
            Arrays.fill(rowPrice, 0);
            Arrays.fill(columnPrice, 0);
            Arrays.fill(columnOf, NONE);
            Arrays.fill(rowOf, NONE);
            for (int row = 0; row < side; row++) {
                assignRow(row);
            }
        }

        /** One more row finds its column by a cheapest chain of changes (the Hungarian method). */
        private void assignRow(int first) {
            Arrays.fill(slack, FAR);
            Arrays.fill(seen, 0);
            int row = first;
            int column = NONE;
            for (int i = 0; i <= side && row >= 0 && row < side; i++) {
                relax(row, column);
                column = nearest();
                if (column < 0 || column >= MOST) {
                    return;
                }
                lower(first, slack[column]);
                seen[column] = 1;
                row = rowOf[column];
            }
            flip(first, column);
        }

        private void relax(int row, int column) {
            for (int c = 0; c < side; c++) {
                int left = cost[row][c] - rowPrice[row] - columnPrice[c];
                if (seen[c] == 0 && left < slack[c]) {
                    slack[c] = left;
                    cameFrom[c] = column;
                }
            }
        }

        private int nearest() {
            int best = NONE;
            for (int c = 0; c < side; c++) {
                if (seen[c] == 0 && (best == NONE || slack[c] < slack[best])) {
                    best = c;
                }
            }
            return best;
        }

        /** Prices move so that the nearest column costs nothing more from the rows that were reached. */
        private void lower(int first, int by) {
            rowPrice[first] += by;
            for (int c = 0; c < side; c++) {
                if (seen[c] != 0) {
                    int row = rowOf[c];
                    if (row >= 0 && row < MOST) {
                        rowPrice[row] += by;
                    }
                    columnPrice[c] -= by;
                } else {
                    slack[c] -= by;
                }
            }
        }

        /** Each column of the chain passes to the row from which the chain came to it. */
        private void flip(int first, int last) {
            int column = last;
            for (int i = 0; i <= side && column >= 0 && column < MOST; i++) {
                int from = cameFrom[column];
                int row = from >= 0 && from < MOST ? rowOf[from] : first;
                if (row >= 0 && row < MOST) {
                    rowOf[column] = row;
                    columnOf[row] = column;
                }
                column = from;
            }
        }

        /** Of all assignments of least cost the first: by EVENTS, the least man, none last. */
        private void chooseFirst() {
            Arrays.fill(settled, 0);
            for (int m = 0; m < MEN; m++) {
                standsAt[m] = m;
            }
            for (int e = 0; e < events; e++) {
                doer[e] = NONE;
                for (int m = 0; m < size && m < MEN && doer[e] == NONE; m++) {
                    if (canDoNext(standsAt[m], e)) {
                        doer[e] = m;
                        standsAt[m] = size + e;
                    }
                }
                settled[e] = 1;
            }
        }

        private boolean isFree(int row, int column) {
            return cost[row][column] - rowPrice[row] - columnPrice[column] == 0;
        }

        /** Whether that row can have the EVENT at no loss, all that is settled staying: it has it then. */
        private boolean canDoNext(int row, int e) {
            if (row < 0 || row >= side || e < 0 || e >= side || !isFree(row, e)) {
                return false;
            }
            int wanted = columnOf[row];
            int other = rowOf[e];
            if (wanted == e) {
                return true;
            }
            if (wanted < 0 || wanted >= side || other < 0 || other >= side) {
                return false;
            }
            settled[e] = 1;
            if (!reaches(other, wanted)) {
                settled[e] = 0;
                return false;
            }
            flip(other, wanted);
            rowOf[e] = row;
            columnOf[row] = e;
            return true;
        }

        /** Whether a row that lost its column comes to that one by changes that cost nothing. */
        private boolean reaches(int from, int wanted) {
            Arrays.fill(seen, 0);
            int length = 0;
            int row = from;
            int column = NONE;
            for (int i = 0; i <= side && seen[wanted] == 0 && row >= 0 && row < side; i++) {
                for (int c = 0; c < side; c++) {
                    if (seen[c] == 0 && settled[c] == 0 && isFree(row, c) && length < MOST) {
                        seen[c] = 1;
                        cameFrom[c] = column;
                        queue[length] = c;
                        length++;
                    }
                }
                if (i >= length || i >= MOST) {
                    break;
                }
                column = queue[i];
                row = rowOf[column];
            }
            return seen[wanted] != 0;
        }
    }

    /** THE NIGHT: the SCORE gone through TICK by TICK, and the SOUNDS of it. */
    private static final class Night {
        private static final int LAST = 4400;
        private static final int SOUNDS = 300;

        private final int[] tick = new int[SOUNDS];
        private final int[] source = new int[SOUNDS];
        private final int[] strong = new int[SOUNDS];
        int kept = 0;
        int all = 0;
        int loudness = 0;
        private final Ball[] balls = new Ball[EVENTS];
        int letGo = 0;
        int ended = 0;
        int bumps = 0;
        private final int[] gates = new int[RUNS];
        private int now = 0;
        private boolean still = true;

        Night() {
            for (int i = 0; i < EVENTS; i++) {
                balls[i] = new Ball();
            }
        }

        void goThrough(Plan plan, Machines machines, Path[] runs) {
            kept = 0;
            all = 0;
            loudness = 0;
            letGo = 0;
            ended = 0;
            bumps = 0;
            still = true;
            Arrays.fill(gates, 0);
            int e = 0;
            for (int t = 0; t <= LAST; t++) {
                now = t;
                if (!still) {
                    rollAll(runs);
                    bumpAll();
                }
                while (e < plan.size && plan.tickOf(e) <= t) {
                    use(plan.machineOf(e), plan.numberOf(e), machines);
                    e++;
                }
            }
        }

        private void rollAll(Path[] runs) {
            still = true;
            for (int i = 0; i < letGo && i < EVENTS; i++) {
                Ball ball = balls[i];
                if (ball != null && ball.place != PIT && ball.run >= 0 && ball.run < runs.length) {
                    roll(ball, runs[ball.run]);
                }
            }
        }

        private void roll(Ball ball, Path path) {
            Board board = path == null ? null : path.boardAt(ball.place);
            if (board == null) {
                return;
            }
            if (ball.rollsOver(board)) {
                int from = 100 * ball.run + ball.place + 100;
                hear(from, ball.fallsOff(board, board.drop));
                path.carryOn(ball, ball.run < RUNS ? gates[ball.run] : 0);
            }
            if (ball.place == PIT) {
                ended++;
            } else if (!ball.isAtRest()) {
                still = false;
            }
        }

        private void bumpAll() {
            if (allAreAlike()) {
                return;
            }
            for (int i = 0; i < letGo && i < EVENTS; i++) {
                for (int j = i + 1; j < letGo && j < EVENTS; j++) {
                    Ball one = balls[i];
                    Ball other = balls[j];
                    if (one != null && other != null && one.stayedWith(other)
                            && (one.overtook(other) || other.overtook(one))) {
                        bumps++;
                        hear(900 + one.run, Math.abs(one.speed - other.speed) / 16);
                    }
                }
            }
        }

        /** Balls of one SPEED come no nearer to one another, which spares the look at all pairs. */
        private boolean allAreAlike() {
            int slowest = 1023;
            int fastest = 0;
            for (int i = 0; i < letGo && i < EVENTS; i++) {
                Ball ball = balls[i];
                if (ball != null && ball.place != PIT) {
                    slowest = Math.min(slowest, ball.speed);
                    fastest = Math.max(fastest, ball.speed);
                }
            }
            return slowest >= fastest;
        }

        private void use(int m, int number, Machines machines) {
            int a = machines.firstOf(m);
            int kind = machines.kindOf(m);
            hear(m, machines.strength(m, number));
            if (kind == HEAD && letGo < EVENTS) {
                Ball ball = balls[letGo];
                if (ball != null) {
                    ball.letGoOn(a);
                    letGo++;
                    still = false;
                }
            } else if (kind == GATE && a >= 0 && a < RUNS) {
                int bit = 1 << machines.secondOf(m);
                gates[a] = number == 0 ? gates[a] & ~bit : gates[a] | bit;
            }
        }

        private void hear(int from, int strength) {
            if (strength <= 0) {
                return;
            }
            all++;
            loudness += strength;
            if (kept >= 0 && kept < SOUNDS) {
                tick[kept] = now;
                source[kept] = from;
                strong[kept] = strength;
                kept++;
            }
        }

        int soundAt(int k, int what) {
            if (k < 0 || k >= SOUNDS) {
                return NONE;
            }
            return what == 0 ? tick[k] : what == 1 ? source[k] : strong[k];
        }
    }

    /**
     * Lays RUNS as they are wished and tells worn steps. Both try the PLACES one behind the other;
     * what is known ahead of a PLACE stands in the rows, so that ways with one beginning share it.
     */
    private static final class Carpenter {
        static final int LAID_MOST = 4;
        private static final int LAID_STOCK = 8;
        private static final int LACK = 100;
        private static final int ROWS = PLACES + 1;
        private static final int WORST = 1000000;

        private final int[] tick = new int[ROWS];
        private final int[] place = new int[ROWS];
        private final int[] part = new int[ROWS];
        private final int[] speed = new int[ROWS];
        private final int[] knocks = new int[ROWS];
        private final int[] sum = new int[ROWS];
        private final int[] chosen = new int[ROWS];
        private final Ball ball = new Ball();
        private final int[] laid = new int[LAID_MOST];
        private int laidCount = 0;
        private int wornSet = 0;
        private int many = 0;
        private int choice = 0;
        private int least = WORST;

        int laidAt(int k) {
            return k >= 0 && k < laidCount && k < LAID_MOST ? laid[k] : NONE;
        }

        int layLikest(Board[] stock, int stockSize, int howMany, Tape wishes) {
            begin();
            many = Math.min(howMany, LAID_MOST);
            choice = Math.min(Math.min(stockSize, LAID_STOCK), stock.length);
            layOn(this, stock, wishes, 0);
            laidCount = many;
            return least;
        }

        int explain(Path path, Tape heard) {
            begin();
            wearOn(this, path, heard, 0);
            return least == WORST ? CANNOT : wornSet;
        }

        private void begin() {
            least = WORST;
            wornSet = 0;
            store(0, 0);
            place[0] = 0;
            part[0] = 0;
            speed[0] = 0;
            knocks[0] = 0;
            sum[0] = 0;
            chosen[0] = 0;
        }

        private void store(int row, int newTick) {
            if (row >= 0 && row < ROWS) {
                tick[row] = newTick;
                place[row] = ball.place;
                part[row] = ball.part;
                speed[row] = ball.speed;
            }
        }

        private void load(int row) {
            if (row >= 0 && row < ROWS) {
                ball.put(place[row], part[row], speed[row]);
            }
        }

        /** The TICK in which the ball, as it is at a TICK, comes over the end of its BOARD; NONE: in none. */
        private int rollToEnd(Board board, int from, int last) {
            for (int t = from + 1; t <= last; t++) {
                int before = ball.speed;
                if (ball.rollsOver(board)) {
                    return t;
                }
                if (ball.speed == before) {
                    return glideToEnd(board, t, last);
                }
            }
            return NONE;
        }

        /** A SPEED that a TICK leaves as it was stays on this BOARD, so that all its TICKS are one step. */
        private int glideToEnd(Board board, int from, int last) {
            if (ball.speed <= 0) {
                return NONE;
            }
            int more = (board.parts - ball.part + ball.speed - 1) / ball.speed;
            ball.part += more * ball.speed;
            return from + more <= last ? from + more : NONE;
        }

        private static void layOn(Carpenter c, Board[] stock, Tape wishes, int depth) {
            if (depth < 0 || depth >= c.many || depth >= LAID_MOST) {
                return;
            }
            for (int b = 0; b < c.choice && b < stock.length; b++) {
                c.chosen[depth] = b;
                boolean goesOn = stock[b] != null && c.passes(stock[b], wishes, depth);
                if (!goesOn || depth + 1 >= c.many) {
                    c.judge(wishes, depth, goesOn ? depth + 1 : depth);
                } else if (c.leastPossible(wishes, depth + 1) < c.least) {
                    layOn(c, stock, wishes, depth + 1);
                }
            }
        }

        /** Whether the ball gets over one more BOARD; the next row tells how then. */
        private boolean passes(Board board, Tape wishes, int depth) {
            int next = depth + 1;
            if (depth < 0 || next >= ROWS) {
                return false;
            }
            load(depth);
            knocks[next] = knocks[depth];
            sum[next] = sum[depth];
            if (ball.part >= board.parts) {
                ball.part -= board.parts;
                store(next, tick[depth]);
                return true;
            }
            int t = rollToEnd(board, tick[depth], FALL_TICKS);
            if (t == NONE) {
                return false;
            }
            if (ball.fallsOff(board, board.drop) > 0) {
                boolean wished = knocks[depth] < wishes.tickCount;
                sum[next] += wished ? Math.abs(t - wishes.tickAt(knocks[depth])) : LACK;
                knocks[next]++;
            }
            store(next, t);
            return true;
        }

        private int leastPossible(Tape wishes, int row) {
            if (row < 0 || row >= ROWS) {
                return WORST;
            }
            int lacking = wishes.tickCount - knocks[row] - (many - row);
            return sum[row] + LACK * Math.max(0, lacking);
        }

        /** Takes what is chosen, if it is better than all ahead; BOARDS that no ball comes to are the first. */
        private void judge(Tape wishes, int depth, int row) {
            if (row < 0 || row >= ROWS) {
                return;
            }
            int error = sum[row] + LACK * Math.max(0, wishes.tickCount - knocks[row]);
            if (error < least) {
                least = error;
                for (int k = 0; k < LAID_MOST; k++) {
                    laid[k] = k <= depth ? chosen[k] : 0;
                }
            }
        }

        /** The worn step is tried first, so that of sets of one size the first is found first. */
        private static void wearOn(Carpenter c, Path path, Tape heard, int depth) {
            if (depth < 0 || depth >= ROWS) {
                return;
            }
            if (c.knocks[depth] >= heard.tickCount) {
                c.least = c.sum[depth];
                c.wornSet = c.chosen[depth];
                return;
            }
            Board board = path.boardAt(c.place[depth]);
            if (board == null || depth + 1 >= ROWS) {
                return;
            }
            c.load(depth);
            int last = Math.min(FALL_TICKS, heard.tickAt(c.knocks[depth]));
            int t = c.rollToEnd(board, c.tick[depth], last);
            if (t == NONE) {
                return;
            }
            c.store(depth, t);
            if (board.drop > 0 && c.sum[depth] + 1 < c.least) {
                c.leave(path, board, heard, depth, 1);
                wearOn(c, path, heard, depth + 1);
            }
            if (c.sum[depth] < c.least) {
                c.leave(path, board, heard, depth, 0);
                wearOn(c, path, heard, depth + 1);
            }
        }

        /** The next row: how it is when the ball has left the PLACE over its step, worn (1) or not (0). */
        private void leave(Path path, Board board, Tape heard, int depth, int worn) {
            int next = depth + 1;
            if (depth < 0 || next >= ROWS) {
                return;
            }
            load(depth);
            knocks[next] = knocks[depth];
            sum[next] = sum[depth] + worn;
            chosen[next] = chosen[depth] | worn << place[depth];
            boolean knocked = ball.fallsOff(board, board.drop - worn) > 0;
            if (knocked && tick[depth] == heard.tickAt(knocks[depth])) {
                knocks[next]++;
            }
            path.carryOn(ball, 0);
            store(next, tick[depth]);
        }
    }
}
