import java.util.Arrays;

/**
 * A yard that dresses buildings in scaffolds. The numbered promises of the
 * document say what each call answers; README.md says how to use the class.
 */
public final class ScaffoldYard {
    public static final int BAD = -1000000001, NO = -1000000002, FULL = -1000000003, NOTHING = -1000000011, INDEX = -1000000013, NONE = -1000000005;

    private static final int MOST_FRAMES = 3, MOST_BAYS = 10, MOST_LIFTS = 6, MOST_PEOPLE = 10;
    private static final int MOST_WIDTH = 100, MOST_HEIGHT = 20, MOST_WIND = 20, MOST_CLASS = 6;
    private static final int SIZE_PLACES = 6, MOST_SIZE = 100, MOST_FIT = 1000, MOST_GAP = 99;
    private static final int MOST_JOIN = 400, MOST_LAP = 50, MOST_TUBES = 20;
    private static final int BEAR_PLACES = 7, FIRST_BEAR = 1000, MOST_BEAR = 1000000;
    private static final int MOST_GO = 400, MOST_DAYS = 1000, LAST_DAY = 1000000, MOST_TAG = 30;
    private static final int MOST_STOCK = 100000, MOST_KEPT = 5;

    private static final int GATE = 1, LOADING = 2, HUNG = 3, NETTED = 4, BAY_KINDS = 5;

    /** A lift has eleven places, a kind of pieces six lifts: so the document numbers the pieces. */
    private static final int PLACES = 11, SPOTS = 66, PIECES = 396;
    private static final int TUBE = 0, LEDGER = 1, BRACE = 2, BOARDS = 3, TIE = 4, BEAM = 5, PIECE_KINDS = 6;

    /** Changes of one piece of the plan bear that piece's kind; these are the others. */
    private static final int FLOOR = 10, STRIP = 11, GUST = 12;

    private final int[] baySizes = new int[SIZE_PLACES];
    private final int[] tubeSizes = new int[SIZE_PLACES];
    private final int[] bears = new int[BEAR_PLACES];
    private final Frame[] frames = new Frame[MOST_FRAMES];
    private final Rows rows = new Rows();
    private final Loads loads = new Loads();
    private final Rules rules = new Rules();
    private final History history = new History();
    private final Moves moves = new Moves();
    /** Ten times the frame, and the lift, on which a person is; -1 for one who is away. */
    private final int[] whereabouts = new int[MOST_PEOPLE];
    private final int[] stocks = new int[PIECE_KINDS * (MOST_WIDTH + 1)];
    private int today;

    public ScaffoldYard() {
        Arrays.fill(bears, FIRST_BEAR);
        Arrays.fill(whereabouts, -1);
        for (int f = 0; f < frames.length; f++) {
            frames[f] = new Frame();
        }
    }

    // ---- sizes

    public int table(int table, int place, int v) {
        int[] values = tableAt(table);
        if (values == null || !within(place, 0, values.length - 1)) {
            return BAD;
        }
        if (!within(v, 0, table == 2 ? MOST_BEAR : MOST_SIZE)) {
            return BAD;
        }
        int old = values[place];
        values[place] = v;
        return old;
    }

    public int fit(int length, int gap, int what, int i) {
        if (!within(length, 1, MOST_FIT) || !within(gap, 0, MOST_GAP) || !within(what, 0, 2) || i < 0) {
            return BAD;
        }
        if (!rows.findFit(baySizes, length, gap)) {
            return NONE;
        }
        if (what == 2) {
            return i < rows.many ? rows.fittedSize(baySizes, i) : NONE;
        }
        return what == 0 ? rows.many : rows.sum;
    }

    public int join(int length, int lap, int what, int i) {
        if (!within(length, 1, MOST_JOIN) || !within(lap, 0, MOST_LAP) || !within(what, 0, 2) || i < 0) {
            return BAD;
        }
        if (!rows.findJoin(tubeSizes, length, lap)) {
            return NONE;
        }
        if (what == 2) {
            return i < rows.many ? rows.joinedSize(tubeSizes, i) : NONE;
        }
        return what == 0 ? rows.many : rows.sum;
    }

    // ---- frames

    public int frame(int f, int lifts, int height, int width) {
        Frame frame = frameAt(f);
        if (frame == null || !within(lifts, 1, MOST_LIFTS) || !within(height, 1, MOST_HEIGHT) || !within(width, 1, MOST_WIDTH)) {
            return BAD;
        }
        if (frame.ups > 0 || someoneOn(f)) {
            return NO;
        }
        frame.begin(lifts, height);
        frame.addBay(0, width);
        history.forget();
        return 0;
    }

    public int bay(int f, int kind, int width) {
        Frame frame = frameAt(f);
        if (frame == null || !within(kind, 0, BAY_KINDS - 1) || !within(width, 1, MOST_WIDTH)) {
            return BAD;
        }
        if (!frame.there || frame.ups > 0) {
            return NO;
        }
        if (frame.bays >= MOST_BAYS) {
            return FULL;
        }
        frame.addBay(kind, width);
        history.forget();
        return frame.bays - 1;
    }

    public int drop(int f) {
        Frame frame = frameAt(f);
        if (frame == null) {
            return BAD;
        }
        if (!frame.there || frame.bays <= 1 || frame.ups > 0) {
            return NO;
        }
        int width = frame.widthOf(frame.bays - 1);
        frame.dropBay();
        history.forget();
        return width;
    }

    public int floor(int f, int lift) {
        Frame frame = frameAt(f);
        if (frame == null) {
            return BAD;
        }
        if (!frame.there) {
            return NO;
        }
        if (!frame.hasLift(lift)) {
            return INDEX;
        }
        int old = frame.hasRow(lift) ? 1 : 0;
        history.note(FLOOR, frame, lift, 0, old);
        frame.setRow(lift, true);
        return 1 - old;
    }

    public int strip(int f, int lift) {
        Frame frame = frameAt(f);
        if (frame == null) {
            return BAD;
        }
        if (!frame.there) {
            return NO;
        }
        if (!frame.hasLift(lift)) {
            return INDEX;
        }
        if (!frame.hasRow(lift)) {
            return NOTHING;
        }
        if (frame.boardsStandOn(lift)) {
            return NO;
        }
        int had = frame.boardsOn(lift);
        history.note(STRIP, frame, lift, 0, 1);
        frame.clearRow(lift);
        return had;
    }

    public int board(int f, int bay, int lift, int load) {
        Frame frame = frameAt(f);
        if (frame == null || !within(load, -1, MOST_CLASS)) {
            return BAD;
        }
        if (!frame.there) {
            return NO;
        }
        if (!frame.hasLift(lift)) {
            return INDEX;
        }
        if (!frame.hasRow(lift)) {
            return NOTHING;
        }
        if (!frame.hasBay(bay)) {
            return INDEX;
        }
        if (frame.isOpening(bay, lift) || frame.stands(pieceAt(BOARDS, lift, bay))) {
            return NO;
        }
        int old = frame.classOf(bay, lift);
        history.note(BOARDS, frame, lift, bay, old);
        frame.setClass(bay, lift, load);
        return old;
    }

    public int brace(int f, int bay, int lift, int on) {
        Frame frame = frameAt(f);
        if (frame == null || !within(on, 0, 1)) {
            return BAD;
        }
        if (!frame.there) {
            return NO;
        }
        if (!frame.hasLift(lift) || !frame.hasBay(bay)) {
            return INDEX;
        }
        if (frame.isOpening(bay, lift) || frame.stands(pieceAt(BRACE, lift, bay))) {
            return NO;
        }
        int old = frame.hasBrace(bay, lift) ? 1 : 0;
        history.note(BRACE, frame, lift, bay, old);
        frame.setBrace(bay, lift, on == 1);
        return old;
    }

    public int tie(int f, int standard, int lift, int on) {
        Frame frame = frameAt(f);
        if (frame == null || !within(on, 0, 1)) {
            return BAD;
        }
        if (!frame.there) {
            return NO;
        }
        if (!frame.hasLift(lift) || !frame.hasStandard(standard)) {
            return INDEX;
        }
        if (lift < frame.lowestLift(standard) || frame.stands(pieceAt(TIE, lift, standard))) {
            return NO;
        }
        int old = frame.hasTie(standard, lift) ? 1 : 0;
        history.note(TIE, frame, lift, standard, old);
        frame.setTie(standard, lift, on == 1);
        return old;
    }

    public int gust(int f, int p) {
        Frame frame = frameAt(f);
        if (frame == null || !within(p, 0, MOST_WIND)) {
            return BAD;
        }
        if (!frame.there) {
            return NO;
        }
        int old = frame.pressure;
        history.note(GUST, frame, 0, 0, old);
        frame.pressure = p;
        return old;
    }

    public int undo() {
        return history.takeBack() ? history.size : NO;
    }

    public int about(int f, int what) {
        Frame frame = frameAt(f);
        if (frame == null || !within(what, 0, 7)) {
            return BAD;
        }
        if (!frame.there) {
            return NO;
        }
        switch (what) {
            case 0: return frame.bays;
            case 1: return frame.lifts;
            case 2: return frame.height;
            case 3: return frame.span(0, frame.bays);
            case 4: return frame.piecesOf(BOARDS);
            case 5: return frame.piecesOf(BRACE);
            case 6: return frame.piecesOf(TIE);
            default: return frame.pressure;
        }
    }

    public int told(int f, int bay, int what) {
        Frame frame = frameAt(f);
        if (frame == null || !within(what, 0, 1)) {
            return BAD;
        }
        if (!frame.there) {
            return NO;
        }
        if (!frame.hasBay(bay)) {
            return INDEX;
        }
        return what == 0 ? frame.kindOf(bay) : frame.widthOf(bay);
    }

    public int isOf(int f, int bay, int kind) {
        Frame frame = frameAt(f);
        if (frame == null || !within(kind, 0, BAY_KINDS - 1)) {
            return BAD;
        }
        if (!frame.there) {
            return NO;
        }
        if (!frame.hasBay(bay)) {
            return INDEX;
        }
        return frame.isOfKind(bay, kind) ? 1 : 0;
    }

    public int plan(int f, int place, int lift, int what) {
        Frame frame = frameAt(f);
        if (frame == null || !within(what, 0, 2)) {
            return BAD;
        }
        if (!frame.there) {
            return NO;
        }
        boolean placed = what == 2 ? frame.hasStandard(place) : frame.hasBay(place);
        if (!placed || !frame.hasLift(lift)) {
            return INDEX;
        }
        if (what == 0) {
            return frame.classOf(place, lift);
        }
        boolean on = what == 1 ? frame.hasBrace(place, lift) : frame.hasTie(place, lift);
        return on ? 1 : 0;
    }

    // ---- loads

    public int load(int f, int standard) {
        Frame frame = frameAt(f);
        if (frame == null) {
            return BAD;
        }
        if (!frame.there) {
            return NO;
        }
        return frame.hasStandard(standard) ? frame.twiceLoad(standard) : INDEX;
    }

    public long foot(int f, int standard, int part) {
        Frame frame = frameAt(f);
        if (frame == null || !within(part, 0, 1)) {
            return BAD;
        }
        if (!frame.there) {
            return NO;
        }
        if (!frame.hasStandard(standard)) {
            return INDEX;
        }
        if (!frame.hasFoot(standard)) {
            return NONE;
        }
        loads.weigh(frame);
        loads.reckonFoot(frame, standard);
        return part == 0 ? loads.above : loads.below;
    }

    public int wind(int f, int standard, int lift) {
        Frame frame = frameAt(f);
        if (frame == null) {
            return BAD;
        }
        if (!frame.there) {
            return NO;
        }
        if (!frame.hasStandard(standard) || !frame.hasLift(lift)) {
            return INDEX;
        }
        loads.reckonWind(frame);
        return loads.windAt(standard, lift);
    }

    public int lost(int f) {
        Frame frame = frameAt(f);
        if (frame == null) {
            return BAD;
        }
        if (!frame.there) {
            return NO;
        }
        loads.reckonWind(frame);
        return loads.windLost;
    }

    public int free(int f, int standard) {
        Frame frame = frameAt(f);
        if (frame == null) {
            return BAD;
        }
        if (!frame.there) {
            return NO;
        }
        return frame.hasStandard(standard) ? frame.freeLifts(standard) : INDEX;
    }

    public int over(int f, int what) {
        Frame frame = frameAt(f);
        if (frame == null || !within(what, 0, 1)) {
            return BAD;
        }
        if (!frame.there) {
            return NO;
        }
        return what == 0 ? loads.standardsOver(frame, bears) : loads.tiesOver(frame, bears);
    }

    // ---- rules

    public int rule(int which, int v) {
        return rules.change(which, v);
    }

    public int breaches(int f) {
        Frame frame = frameAt(f);
        if (frame == null) {
            return BAD;
        }
        return frame.there ? rules.reckon(frame) : NO;
    }

    public int breach(int f, int i, int what) {
        Frame frame = frameAt(f);
        if (frame == null || i < 0 || !within(what, 0, 2)) {
            return BAD;
        }
        if (!frame.there) {
            return NO;
        }
        if (i >= rules.reckon(frame)) {
            return NONE;
        }
        return rules.partOf(i, what);
    }

    // ---- putting up

    public int put(int f, int piece) {
        Frame frame = frameAt(f);
        if (frame == null) {
            return BAD;
        }
        if (!frame.there) {
            return NO;
        }
        if (!frame.hasPiece(piece)) {
            return BAD;
        }
        if (!frame.canRaise(piece)) {
            return NO;
        }
        frame.raise(piece);
        return frame.ups;
    }

    public int take(int f, int piece) {
        Frame frame = frameAt(f);
        if (frame == null) {
            return BAD;
        }
        if (!frame.there) {
            return NO;
        }
        if (!frame.hasPiece(piece)) {
            return BAD;
        }
        if (!frame.canLower(piece)) {
            return NO;
        }
        frame.lower(piece);
        return frame.ups;
    }

    public int next(int f, int what) {
        Frame frame = frameAt(f);
        if (frame == null || !within(what, 0, 2)) {
            return BAD;
        }
        if (!frame.there) {
            return NO;
        }
        if (what == 0) {
            return frame.leastToRaise(0);
        }
        return what == 1 ? frame.greatestToLower(PIECES - 1) : frame.leastDown();
    }

    public int go(int f, int n, int on) {
        Frame frame = frameAt(f);
        if (frame == null || !within(n, 1, MOST_GO) || !within(on, 0, 1)) {
            return BAD;
        }
        if (!frame.there) {
            return NO;
        }
        return on == 1 ? frame.raiseUpTo(n) : frame.lowerUpTo(n);
    }

    public int isUp(int f, int piece) {
        Frame frame = frameAt(f);
        if (frame == null) {
            return BAD;
        }
        if (!frame.there) {
            return NO;
        }
        if (!frame.hasPiece(piece)) {
            return NONE;
        }
        return frame.stands(piece) ? 1 : 0;
    }

    // ---- days

    public int day(int n) {
        if (!within(n, 0, MOST_DAYS) || today + n > LAST_DAY) {
            return BAD;
        }
        today += n;
        for (int f = 0; f < frames.length; f++) {
            frames[f].endTagsBefore(today);
        }
        return today;
    }

    public int storm() {
        int ended = tagsInAll();
        for (int f = 0; f < frames.length; f++) {
            frames[f].endTagsFrom(0);
        }
        return ended;
    }

    public int tag(int f, int lift, int n) {
        Frame frame = frameAt(f);
        if (frame == null || !within(n, 1, MOST_TAG)) {
            return BAD;
        }
        if (!frame.there) {
            return NO;
        }
        if (!frame.hasLift(lift)) {
            return INDEX;
        }
        if (!frame.standsUpTo(lift) || rules.brokenUpTo(frame, lift) || loads.standardsOver(frame, bears) != 0) {
            return NO;
        }
        int last = today + n - 1;
        frame.setTag(lift, last);
        return last;
    }

    public int tagged(int f, int lift) {
        Frame frame = frameAt(f);
        if (frame == null) {
            return BAD;
        }
        if (!frame.there) {
            return NO;
        }
        if (!frame.hasLift(lift)) {
            return INDEX;
        }
        return frame.hasTag(lift) ? frame.tagOf(lift) : NONE;
    }

    public int enter(int person, int f, int lift) {
        Frame frame = frameAt(f);
        if (!isPerson(person) || frame == null) {
            return BAD;
        }
        if (!frame.there) {
            return NO;
        }
        if (!frame.hasLift(lift)) {
            return INDEX;
        }
        if (!frame.hasTag(lift) || whereabouts[person] >= 0) {
            return NO;
        }
        whereabouts[person] = 10 * f + lift;
        return peopleAt(10 * f + lift);
    }

    public int leave(int person) {
        if (!isPerson(person)) {
            return BAD;
        }
        int where = whereabouts[person];
        if (where < 0) {
            return NO;
        }
        whereabouts[person] = -1;
        return where;
    }

    public int stranded() {
        int bits = 0;
        for (int person = 0; person < whereabouts.length; person++) {
            int where = whereabouts[person];
            Frame frame = where < 0 ? null : frameAt(where / 10);
            if (frame != null && !frame.hasTag(where % 10)) {
                bits |= 1 << person;
            }
        }
        return bits;
    }

    // ---- the yard

    public int stock(int kind, int width, int v) {
        if (!isPieceSize(kind, width) || !within(v, 0, MOST_STOCK)) {
            return BAD;
        }
        int shelf = shelfOf(kind, width);
        int old = stocks[shelf];
        stocks[shelf] = v;
        return old;
    }

    public int wants(int f, int kind, int width) {
        Frame frame = frameAt(f);
        if (frame == null || !isPieceSize(kind, width)) {
            return BAD;
        }
        return frame.there ? frame.piecesOfSize(kind, width) : NO;
    }

    public int lacks(int kind, int width) {
        if (!isPieceSize(kind, width)) {
            return BAD;
        }
        int wanted = 0;
        for (int f = 0; f < frames.length; f++) {
            wanted += frames[f].piecesOfSize(kind, width);
        }
        return Math.max(0, wanted - stocks[shelfOf(kind, width)]);
    }

    public int stays(int f, int g, int i) {
        Frame from = frameAt(f);
        Frame to = frameAt(g);
        if (from == null || to == null || i < -1) {
            return BAD;
        }
        if (!from.there || !to.there) {
            return NO;
        }
        int many = moves.reckon(from, to);
        if (i == -1) {
            return many;
        }
        return i < many ? moves.bayThatStays(i) : NONE;
    }

    public int count(int what) {
        switch (what) {
            case 0: return framesInAll();
            case 1: return upsInAll();
            case 2: return tagsInAll();
            case 3: return MOST_PEOPLE - peopleAt(-1);
            case 4: return today;
            case 5: return history.size;
            default: return BAD;
        }
    }

    // ---- helpers of the calls

    private static boolean within(int v, int least, int most) {
        return v >= least && v <= most;
    }

    private static int pieceAt(int kind, int lift, int place) {
        return SPOTS * kind + PLACES * lift + place;
    }

    private static boolean isPieceSize(int kind, int width) {
        return within(kind, 0, PIECE_KINDS - 1) && within(width, 1, MOST_WIDTH);
    }

    private static int shelfOf(int kind, int width) {
        return kind * (MOST_WIDTH + 1) + width;
    }

    private int[] tableAt(int table) {
        switch (table) {
            case 0: return baySizes;
            case 1: return tubeSizes;
            case 2: return bears;
            default: return null;
        }
    }

    private Frame frameAt(int f) {
        return within(f, 0, frames.length - 1) ? frames[f] : null;
    }

    private boolean isPerson(int person) {
        return within(person, 0, whereabouts.length - 1);
    }

    private boolean someoneOn(int f) {
        for (int person = 0; person < whereabouts.length; person++) {
            if (whereabouts[person] >= 0 && whereabouts[person] / 10 == f) {
                return true;
            }
        }
        return false;
    }

    private int peopleAt(int where) {
        int many = 0;
        for (int person = 0; person < whereabouts.length; person++) {
            if (whereabouts[person] == where) {
                many++;
            }
        }
        return many;
    }

    private int framesInAll() {
        int many = 0;
        for (int f = 0; f < frames.length; f++) {
            if (frames[f].there) {
                many++;
            }
        }
        return many;
    }

    private int upsInAll() {
        int many = 0;
        for (int f = 0; f < frames.length; f++) {
            many += frames[f].ups;
        }
        return many;
    }

    private int tagsInAll() {
        int many = 0;
        for (int f = 0; f < frames.length; f++) {
            many += frames[f].tagsHere();
        }
        return many;
    }

    /** Finds rows of bays and of tubes; what it found last is kept until it is asked again. */
    private static final class Rows {
        private static final int UNREACHED = 1000000;
        private static final int COUNTS = (1 << (MOST_TUBES + 1)) - 1;

        int many;
        int sum;
        /** For each sum: the fewest bays (a fit), or the numbers of tubes, as bits (a join), that make it. */
        private final int[] reach = new int[MOST_TUBES * MOST_SIZE + 1];

        boolean findFit(int[] sizes, int length, int gap) {
            reckonFewest(sizes, length);
            many = UNREACHED;
            for (int s = length; s >= 1 && s >= length - gap; s--) {
                if (reach[s] < many) {
                    many = reach[s];
                    sum = s;
                }
            }
            return many < UNREACHED;
        }

        private void reckonFewest(int[] sizes, int length) {
            reach[0] = 0;
            for (int s = 1; s <= length && s < reach.length; s++) {
                int fewest = UNREACHED;
                for (int k = 0; k < sizes.length; k++) {
                    if (sizes[k] > 0 && sizes[k] <= s) {
                        fewest = Math.min(fewest, reach[s - sizes[k]] + 1);
                    }
                }
                reach[s] = fewest;
            }
        }

        /**
         * Bay i of the fit found last. The greatest size of all rows of fewest bays
         * is taken at each step, so that none behind it can be greater.
         */
        int fittedSize(int[] sizes, int i) {
            int rest = sum;
            int size = 0;
            for (int step = 0; step <= i && step < many; step++) {
                size = 0;
                for (int k = 0; k < sizes.length; k++) {
                    if (sizes[k] > size && sizes[k] <= rest && reach[rest - sizes[k]] == many - step - 1) {
                        size = sizes[k];
                    }
                }
                rest -= size;
            }
            return size;
        }

        boolean findJoin(int[] sizes, int length, int lap) {
            reckonCounts(sizes);
            for (int n = 1; n <= MOST_TUBES; n++) {
                for (int s = length + lap * (n - 1); s <= n * MOST_SIZE && s < reach.length; s++) {
                    if (makes(s, n)) {
                        many = n;
                        sum = s;
                        return true;
                    }
                }
            }
            return false;
        }

        private void reckonCounts(int[] sizes) {
            reach[0] = 1;
            for (int s = 1; s < reach.length; s++) {
                int counts = 0;
                for (int k = 0; k < sizes.length; k++) {
                    if (sizes[k] > 0 && sizes[k] <= s) {
                        counts |= reach[s - sizes[k]] << 1;
                    }
                }
                reach[s] = counts & COUNTS;
            }
        }

        private boolean makes(int s, int n) {
            return within(s, 0, reach.length - 1) && (reach[s] >> n & 1) == 1;
        }

        /** Tube i of the join found last, by the same steps as a bay of a fit. */
        int joinedSize(int[] sizes, int i) {
            int rest = sum;
            int size = 0;
            for (int step = 0; step <= i && step < many; step++) {
                size = 0;
                for (int k = 0; k < sizes.length; k++) {
                    if (sizes[k] > size && makes(rest - sizes[k], many - step - 1)) {
                        size = sizes[k];
                    }
                }
                rest -= size;
            }
            return size;
        }
    }

    /** One frame: its bays, its plan, what is up of it, and its tags. */
    private static final class Frame {
        boolean there;
        int bays;
        int lifts;
        int height;
        int pressure;
        int ups;
        private final int[] kinds = new int[MOST_BAYS];
        private final int[] widths = new int[MOST_BAYS];
        /** The lowest lift of each standard: 0 with a foot, 1 without. */
        private final int[] lowest = new int[MOST_BAYS + 1];
        private final boolean[] floors = new boolean[MOST_LIFTS];
        private final int[] classes = new int[SPOTS];
        private final boolean[] braces = new boolean[SPOTS];
        private final boolean[] ties = new boolean[SPOTS];
        /** How many pieces that are up need this one; -1 for one that is not up itself. */
        private final int[] hangers = new int[PIECES];
        /** The last day of each lift's tag; -1 for none. */
        private final int[] tags = new int[MOST_LIFTS];

        Frame() {
            Arrays.fill(hangers, -1);
        }

        void begin(int newLifts, int newHeight) {
            there = true;
            bays = 0;
            lifts = newLifts;
            height = newHeight;
            pressure = 0;
            Arrays.fill(lowest, 0);
            clear(floors);
            Arrays.fill(classes, -1);
            clear(braces);
            clear(ties);
            Arrays.fill(tags, -1);
        }

        private static void clear(boolean[] row) {
            for (int k = 0; k < row.length; k++) {
                row[k] = false;
            }
        }

        void addBay(int kind, int width) {
            if (bays >= MOST_BAYS) {
                return;
            }
            kinds[bays] = kind;
            widths[bays] = width;
            bays++;
            // Only the standard to the left of the new bay may have lost its foot, and with it a tie there.
            lowest[bays] = 0;
            lowest[bays - 1] = isGate(bays - 2) && isGate(bays - 1) ? 1 : 0;
            if (lowest[bays - 1] > 0) {
                setTie(bays - 1, 0, false);
            }
        }

        void dropBay() {
            if (bays < 1) {
                return;
            }
            for (int lift = 0; lift < lifts; lift++) {
                setClass(bays - 1, lift, -1);
                setBrace(bays - 1, lift, false);
                setTie(bays, lift, false);
            }
            bays--;
            lowest[bays] = 0;
        }

        boolean hasBay(int bay) {
            return bay >= 0 && bay < bays;
        }

        boolean hasStandard(int standard) {
            return there && standard >= 0 && standard <= bays;
        }

        boolean hasLift(int lift) {
            return lift >= 0 && lift < lifts;
        }

        int kindOf(int bay) {
            return hasBay(bay) ? kinds[bay] : -1;
        }

        int widthOf(int bay) {
            return hasBay(bay) ? widths[bay] : 0;
        }

        boolean isOfKind(int bay, int kind) {
            if (!hasBay(bay)) {
                return false;
            }
            return kind == 0 || kinds[bay] == kind || kind == LOADING && kinds[bay] == NETTED;
        }

        private boolean isGate(int bay) {
            return hasBay(bay) && kinds[bay] == GATE;
        }

        /** Where a gate is open: no ledger, boards or brace can be there. */
        boolean isOpening(int bay, int lift) {
            return lift == 0 && hasBay(bay) && kinds[bay] == GATE;
        }

        boolean hasFoot(int standard) {
            return hasStandard(standard) && lowest[standard] == 0;
        }

        int lowestLift(int standard) {
            return standard >= 0 && standard < lowest.length ? lowest[standard] : 0;
        }

        /** The next standard with a foot from this one on, to the left (step -1) or to the right (1); -1: none. */
        int footFrom(int standard, int step) {
            int at = standard;
            for (int k = 0; k <= MOST_BAYS && at >= 0 && at <= bays; k++) {
                if (lowest[at] == 0) {
                    return at;
                }
                at += step;
            }
            return -1;
        }

        /** The widths together of the bays between two standards. */
        int span(int one, int other) {
            int together = 0;
            for (int bay = Math.max(0, Math.min(one, other)); bay < Math.max(one, other) && bay < bays; bay++) {
                together += widths[bay];
            }
            return together;
        }

        // -- the plan

        boolean hasRow(int lift) {
            return hasLift(lift) && floors[lift];
        }

        void setRow(int lift, boolean on) {
            if (hasLift(lift)) {
                floors[lift] = on;
            }
        }

        void clearRow(int lift) {
            setRow(lift, false);
            for (int bay = 0; bay < bays; bay++) {
                setClass(bay, lift, -1);
            }
        }

        int classOf(int bay, int lift) {
            return hasBay(bay) && hasLift(lift) ? classes[PLACES * lift + bay] : -1;
        }

        void setClass(int bay, int lift, int load) {
            if (hasBay(bay) && hasLift(lift)) {
                classes[PLACES * lift + bay] = load;
            }
        }

        boolean hasBrace(int bay, int lift) {
            return hasBay(bay) && hasLift(lift) && braces[PLACES * lift + bay];
        }

        void setBrace(int bay, int lift, boolean on) {
            if (hasBay(bay) && hasLift(lift)) {
                braces[PLACES * lift + bay] = on;
            }
        }

        boolean hasTie(int standard, int lift) {
            return hasStandard(standard) && hasLift(lift) && ties[PLACES * lift + standard];
        }

        void setTie(int standard, int lift, boolean on) {
            if (hasStandard(standard) && hasLift(lift)) {
                ties[PLACES * lift + standard] = on;
            }
        }

        int boardsOn(int lift) {
            int many = 0;
            for (int bay = 0; bay < bays; bay++) {
                if (classOf(bay, lift) >= 0) {
                    many++;
                }
            }
            return many;
        }

        boolean boardsStandOn(int lift) {
            for (int bay = 0; bay < bays; bay++) {
                if (stands(pieceAt(BOARDS, lift, bay))) {
                    return true;
                }
            }
            return false;
        }

        // -- what it weighs, and how it is held

        int boardsWeight(int bay, int lift) {
            int load = classOf(bay, lift);
            if (load < 0) {
                return 0;
            }
            int borne = isOfKind(bay, LOADING) ? 2 * load : load;
            return 2 * widthOf(bay) + borne;
        }

        int twiceLoad(int standard) {
            int twice = 2 * height * (lifts - lowestLift(standard));
            for (int lift = 0; lift < lifts; lift++) {
                int fromRight = boardsWeight(standard, lift);
                twice += isOfKind(standard, HUNG) ? 2 * fromRight : fromRight;
                twice += isOfKind(standard - 1, HUNG) ? 0 : boardsWeight(standard - 1, lift);
            }
            return twice;
        }

        int freeLifts(int standard) {
            int held = lowestLift(standard);
            int most = 1;
            for (int lift = 0; lift < lifts; lift++) {
                if (hasTie(standard, lift)) {
                    most = Math.max(most, lift + 1 - held);
                    held = lift + 1;
                }
            }
            return Math.max(most, lifts - held);
        }

        // -- its pieces

        boolean hasPiece(int piece) {
            if (piece < 0 || piece >= PIECES) {
                return false;
            }
            int lift = piece % SPOTS / PLACES;
            int place = piece % PLACES;
            switch (piece / SPOTS) {
                case TUBE: return hasStandard(place) && hasLift(lift) && lift >= lowestLift(place);
                case LEDGER: return hasBay(place) && hasLift(lift) && !isOpening(place, lift);
                case BRACE: return hasBrace(place, lift);
                case BOARDS: return classOf(place, lift) >= 0;
                case TIE: return hasTie(place, lift);
                default: return hasLift(lift) && isOpening(place, lift);
            }
        }

        int piecesOf(int kind) {
            int many = 0;
            for (int spot = 0; spot < SPOTS; spot++) {
                if (hasPiece(SPOTS * kind + spot)) {
                    many++;
                }
            }
            return many;
        }

        int piecesOfSize(int kind, int size) {
            int many = 0;
            for (int spot = 0; spot < SPOTS; spot++) {
                if (hasPiece(SPOTS * kind + spot) && sizeOf(kind, spot % PLACES) == size) {
                    many++;
                }
            }
            return many;
        }

        private int sizeOf(int kind, int place) {
            if (kind == TUBE) {
                return height;
            }
            return kind == TIE ? 1 : widthOf(place);
        }

        /** One of the two pieces that a piece needs at most (which 0 or 1); -1: no such one. */
        private int need(int piece, int which) {
            int lift = piece % SPOTS / PLACES;
            int place = piece % PLACES;
            switch (piece / SPOTS) {
                case TUBE: return needOfTube(place, lift, which);
                case LEDGER: return pieceAt(TUBE, lift, place + which);
                case BRACE:
                case BOARDS: return which == 0 ? pieceAt(LEDGER, lift, place) : -1;
                case TIE: return which == 0 ? pieceAt(TUBE, lift, place) : -1;
                default: return pieceAt(TUBE, 0, which == 0 ? footFrom(place, -1) : footFrom(place + 1, 1));
            }
        }

        private int needOfTube(int standard, int lift, int which) {
            int least = lowestLift(standard);
            if (lift > least) {
                return which == 0 ? pieceAt(TUBE, lift - 1, standard) : -1;
            }
            return least == 0 ? -1 : pieceAt(BEAM, 0, standard - 1 + which);
        }

        boolean stands(int piece) {
            return piece >= 0 && piece < PIECES && hangers[piece] >= 0;
        }

        boolean canRaise(int piece) {
            if (stands(piece) || !hasPiece(piece)) {
                return false;
            }
            int one = need(piece, 0);
            int other = need(piece, 1);
            return (one < 0 || stands(one)) && (other < 0 || stands(other));
        }

        boolean canLower(int piece) {
            return stands(piece) && hangers[piece] == 0;
        }

        void raise(int piece) {
            if (canRaise(piece)) {
                hangers[piece] = 0;
                ups++;
                hang(need(piece, 0), 1);
                hang(need(piece, 1), 1);
                endTagsFrom(piece % SPOTS / PLACES);
            }
        }

        void lower(int piece) {
            if (canLower(piece)) {
                hangers[piece] = -1;
                ups--;
                hang(need(piece, 0), -1);
                hang(need(piece, 1), -1);
                endTagsFrom(piece % SPOTS / PLACES);
            }
        }

        private void hang(int needed, int more) {
            if (stands(needed)) {
                hangers[needed] += more;
            }
        }

        int leastToRaise(int from) {
            for (int piece = from; piece < PIECES; piece++) {
                if (canRaise(piece)) {
                    return piece;
                }
            }
            return NONE;
        }

        int greatestToLower(int from) {
            for (int piece = from; piece >= 0; piece--) {
                if (canLower(piece)) {
                    return piece;
                }
            }
            return NONE;
        }

        int leastDown() {
            for (int piece = 0; piece < PIECES; piece++) {
                if (hasPiece(piece) && !stands(piece)) {
                    return piece;
                }
            }
            return NONE;
        }

        int raiseUpTo(int n) {
            int from = 0;
            for (int done = 0; done < n; done++) {
                int piece = leastToRaise(from);
                if (piece < 0) {
                    return done;
                }
                raise(piece);
                // Only a beam is needed by pieces of lesser numbers.
                from = piece / SPOTS == BEAM ? 0 : piece + 1;
            }
            return n;
        }

        int lowerUpTo(int n) {
            int from = PIECES - 1;
            for (int done = 0; done < n; done++) {
                int piece = greatestToLower(from);
                if (piece < 0) {
                    return done;
                }
                lower(piece);
                // Only a tube needs pieces of greater numbers: beams.
                from = piece / SPOTS == TUBE ? PIECES - 1 : piece - 1;
            }
            return n;
        }

        boolean standsUpTo(int lift) {
            for (int piece = 0; piece < PIECES; piece++) {
                if (piece % SPOTS / PLACES <= lift && hasPiece(piece) && !stands(piece)) {
                    return false;
                }
            }
            return true;
        }

        // -- its tags

        boolean hasTag(int lift) {
            return hasLift(lift) && tags[lift] >= 0;
        }

        int tagOf(int lift) {
            return hasLift(lift) ? tags[lift] : -1;
        }

        void setTag(int lift, int last) {
            if (hasLift(lift)) {
                tags[lift] = last;
            }
        }

        int tagsHere() {
            int many = 0;
            for (int lift = 0; lift < lifts; lift++) {
                if (hasTag(lift)) {
                    many++;
                }
            }
            return many;
        }

        void endTagsFrom(int lowest) {
            for (int lift = lowest; lift < lifts; lift++) {
                setTag(lift, -1);
            }
        }

        void endTagsBefore(int day) {
            for (int lift = 0; lift < lifts; lift++) {
                if (tagOf(lift) < day) {
                    setTag(lift, -1);
                }
            }
        }
    }

    /** Reckons what is at a foot and where the wind goes; what it reckoned last is kept. */
    private static final class Loads {
        /** What is at a foot, above the line and below it. */
        long above;
        long below;
        int windLost;
        private final int[] windOn = new int[SPOTS];
        /** Twice the load of each standard of the frame weighed last. */
        private final int[] twice = new int[MOST_BAYS + 1];

        void weigh(Frame frame) {
            for (int s = 0; s <= frame.bays && s < twice.length; s++) {
                twice[s] = frame.twiceLoad(s);
            }
        }

        /** To be called behind weigh: what is at one foot of the frame weighed last. */
        void reckonFoot(Frame frame, int standard) {
            if (!within(standard, 0, twice.length - 1)) {
                return;
            }
            above = twice[standard];
            below = 2;
            addFootless(frame, standard, -1);
            addFootless(frame, standard, 1);
            long common = commonDivisor(above, below);
            if (common > 1) {
                above /= common;
                below /= common;
            }
        }

        /** Adds what the standards without foot to one side (step -1 or 1) send to a foot. */
        private void addFootless(Frame frame, int standard, int step) {
            int end = frame.footFrom(standard + step, step);
            if (end < 0) {
                return;
            }
            long all = frame.span(standard, end);
            long sent = 0;
            for (int at = Math.min(standard, end) + 1; at < Math.max(standard, end) && at < twice.length; at++) {
                sent += (long) twice[at] * frame.span(at, end);
            }
            if (sent > 0) {
                above = above * 2 * all + sent * below;
                below = below * 2 * all;
            }
        }

        private static long commonDivisor(long one, long other) {
            long a = one;
            long b = other;
            // Each second step halves a long at least, so that 200 steps are never needed.
            for (int k = 0; k < 200 && b != 0; k++) {
                long rest = a % b;
                a = b;
                b = rest;
            }
            return a;
        }

        int standardsOver(Frame frame, int[] bears) {
            int bits = 0;
            weigh(frame);
            for (int s = 0; s <= frame.bays && s < twice.length; s++) {
                if (isOver(frame, s, bears)) {
                    bits |= 1 << s;
                }
            }
            return bits;
        }

        private boolean isOver(Frame frame, int standard, int[] bears) {
            int lifts = frame.freeLifts(standard);
            if (!within(lifts, 0, bears.length - 1) || !within(standard, 0, twice.length - 1)) {
                return false;
            }
            long bearing = bears[lifts];
            if (!frame.hasFoot(standard)) {
                return twice[standard] > 2 * bearing;
            }
            reckonFoot(frame, standard);
            return above > bearing * below;
        }

        int tiesOver(Frame frame, int[] bears) {
            if (bears.length == 0) {
                return 0;
            }
            reckonWind(frame);
            int many = 0;
            for (int spot = 0; spot < windOn.length; spot++) {
                if (frame.hasTie(spot % PLACES, spot / PLACES) && windOn[spot] > bears[0]) {
                    many++;
                }
            }
            return many;
        }

        void reckonWind(Frame frame) {
            windLost = 0;
            Arrays.fill(windOn, 0);
            for (int bay = 0; bay < frame.bays; bay++) {
                if (frame.isOfKind(bay, NETTED)) {
                    for (int lift = 0; lift < frame.lifts; lift++) {
                        blow(frame, bay, lift);
                    }
                }
            }
        }

        private void blow(Frame frame, int bay, int lift) {
            int force = frame.pressure * frame.widthOf(bay) * frame.height;
            int spot = nearestTie(frame, bay, lift);
            if (within(spot, 0, windOn.length - 1)) {
                windOn[spot] += force;
            } else {
                windLost += force;
            }
        }

        /** The spot of the tie that the wind on a bay goes to; -1: there are no ties. */
        private static int nearestTie(Frame frame, int bay, int lift) {
            int nearest = -1;
            int least = 0;
            // By standards first: of several that are as near, the least standard holds it, then the least lift.
            for (int s = 0; s <= frame.bays; s++) {
                for (int k = 0; k < frame.lifts; k++) {
                    int way = Math.abs(2 * s - 2 * bay - 1) + 2 * Math.abs(k - lift);
                    if (frame.hasTie(s, k) && (nearest < 0 || way < least)) {
                        nearest = PLACES * k + s;
                        least = way;
                    }
                }
            }
            return nearest;
        }

        int windAt(int standard, int lift) {
            int spot = PLACES * lift + standard;
            return within(spot, 0, windOn.length - 1) ? windOn[spot] : 0;
        }
    }

    /** The rules for all frames, and the breaches of the frame asked last. */
    private static final class Rules {
        private static final int TIES = 0, BRACES = 1;

        private int standardsBetween;
        private int liftsTogether = 1;
        private int baysTogether;
        private int found;
        /** A breach is told as 66 times its rule, 11 times its lift, and its place. */
        private final int[] codes = new int[2 * SPOTS];

        int change(int which, int v) {
            int old;
            if (which == 0 && within(v, 0, 9)) {
                old = standardsBetween;
                standardsBetween = v;
            } else if (which == 1 && within(v, 1, MOST_LIFTS)) {
                old = liftsTogether;
                liftsTogether = v;
            } else if (which == 2 && within(v, 0, MOST_BAYS)) {
                old = baysTogether;
                baysTogether = v;
            } else {
                old = BAD;
            }
            return old;
        }

        /** Lists the breaches of a frame: how many there are. */
        int reckon(Frame frame) {
            found = 0;
            if (standardsBetween > 0) {
                listTies(frame);
            }
            if (baysTogether > 0) {
                listBraces(frame);
            }
            return found;
        }

        private void listTies(Frame frame) {
            int wide = Math.min(standardsBetween + 1, frame.bays + 1);
            int high = Math.min(liftsTogether, frame.lifts);
            for (int lift = 0; lift + high <= frame.lifts; lift++) {
                for (int s = 0; s + wide <= frame.bays + 1; s++) {
                    if (!isTied(frame, s, s + wide, lift, lift + high)) {
                        list(TIES, lift, s);
                    }
                }
            }
        }

        private static boolean isTied(Frame frame, int left, int right, int low, int high) {
            for (int lift = low; lift < high; lift++) {
                for (int s = left; s < right; s++) {
                    if (frame.hasTie(s, lift)) {
                        return true;
                    }
                }
            }
            return false;
        }

        private void listBraces(Frame frame) {
            int wide = Math.min(baysTogether, frame.bays);
            for (int lift = 0; lift < frame.lifts; lift++) {
                for (int bay = 0; bay + wide <= frame.bays; bay++) {
                    if (!isBraced(frame, bay, bay + wide, lift)) {
                        list(BRACES, lift, bay);
                    }
                }
            }
        }

        private static boolean isBraced(Frame frame, int left, int right, int lift) {
            for (int bay = left; bay < right; bay++) {
                if (frame.hasBrace(bay, lift) || frame.isOpening(bay, lift)) {
                    return true;
                }
            }
            return false;
        }

        private void list(int kind, int lift, int place) {
            if (found < codes.length) {
                codes[found] = pieceAt(kind, lift, place);
                found++;
            }
        }

        /** Of breach i of those listed last: its rule (what 0), lift (1), standard or bay (2). */
        int partOf(int i, int what) {
            if (!within(i, 0, found - 1) || i >= codes.length) {
                return NONE;
            }
            switch (what) {
                case 0: return codes[i] / SPOTS;
                case 1: return codes[i] % SPOTS / PLACES;
                default: return codes[i] % PLACES;
            }
        }

        boolean brokenUpTo(Frame frame, int lift) {
            int many = reckon(frame);
            for (int i = 0; i < many; i++) {
                if (partOf(i, 1) <= lift) {
                    return true;
                }
            }
            return false;
        }
    }

    /** What a change did away with. */
    private static final class Change {
        int kind;
        Frame frame;
        int lift;
        int place;
        int old;
        final int[] row = new int[MOST_BAYS];

        void remember(int newKind, Frame newFrame, int newLift, int newPlace, int newOld) {
            kind = newKind;
            frame = newFrame;
            lift = newLift;
            place = newPlace;
            old = newOld;
            for (int bay = 0; bay < row.length; bay++) {
                row[bay] = newFrame.classOf(bay, newLift);
            }
        }

        /** Whether a piece that is up would not be in the plan without this change. */
        boolean bearsPiece() {
            boolean wasThere = kind == BOARDS ? old >= 0 : old != 0;
            boolean ofPiece = kind == BOARDS || kind == BRACE || kind == TIE;
            return ofPiece && !wasThere && frame != null && frame.stands(pieceAt(kind, lift, place));
        }

        void revert() {
            if (frame == null) {
                return;
            }
            switch (kind) {
                case BOARDS: frame.setClass(place, lift, old); break;
                case BRACE: frame.setBrace(place, lift, old != 0); break;
                case TIE: frame.setTie(place, lift, old != 0); break;
                case GUST: frame.pressure = old; break;
                default: revertRow(); break;
            }
        }

        private void revertRow() {
            frame.setRow(lift, old != 0);
            for (int bay = 0; bay < row.length; bay++) {
                frame.setClass(bay, lift, row[bay]);
            }
        }
    }

    /** The latest changes, in a ring whose oldest one makes room. */
    private static final class History {
        int size;
        private int newest;
        private final Change[] kept = new Change[MOST_KEPT];

        History() {
            for (int k = 0; k < kept.length; k++) {
                kept[k] = new Change();
            }
        }

        /** To be called ahead of the change, while the old state can still be read. */
        void note(int kind, Frame frame, int lift, int place, int old) {
            newest = (newest + 1) % MOST_KEPT;
            size = Math.min(size + 1, MOST_KEPT);
            kept[newest].remember(kind, frame, lift, place, old);
        }

        void forget() {
            size = 0;
        }

        boolean takeBack() {
            if (size == 0 || kept[newest].bearsPiece()) {
                return false;
            }
            kept[newest].revert();
            newest = (newest + MOST_KEPT - 1) % MOST_KEPT;
            size--;
            return true;
        }
    }

    /** Finds the bays that stay as one frame is moved to another. */
    private static final class Moves {
        private int many;
        private final int[] staying = new int[MOST_BAYS];
        /** For bays a and b: how many can stay of those from a on in one frame and from b on in the other. */
        private final int[][] most = new int[MOST_BAYS + 1][MOST_BAYS + 1];

        int reckon(Frame from, Frame to) {
            for (int a = from.bays; a >= 0; a--) {
                for (int b = to.bays; b >= 0; b--) {
                    most[a][b] = mostFrom(from, to, a, b);
                }
            }
            choose(from, to);
            return many;
        }

        private int mostFrom(Frame from, Frame to, int a, int b) {
            if (a >= from.bays || b >= to.bays) {
                return 0;
            }
            int without = Math.max(most[a + 1][b], most[a][b + 1]);
            return isLike(from, a, to, b) ? Math.max(without, most[a + 1][b + 1] + 1) : without;
        }

        private static boolean isLike(Frame from, int a, Frame to, int b) {
            return from.kindOf(a) == to.kindOf(b) && from.widthOf(a) == to.widthOf(b);
        }

        /** Takes each bay that still lets as many stay as can, with the first one like it. */
        private void choose(Frame from, Frame to) {
            many = 0;
            int b = 0;
            for (int a = 0; a < from.bays && many < staying.length; a++) {
                int like = firstLike(from, a, to, b);
                if (like < to.bays && most[a + 1][like + 1] + 1 == most[a][b]) {
                    staying[many] = a;
                    many++;
                    b = like + 1;
                }
            }
        }

        private static int firstLike(Frame from, int a, Frame to, int start) {
            for (int b = start; b < to.bays; b++) {
                if (isLike(from, a, to, b)) {
                    return b;
                }
            }
            return to.bays;
        }

        int bayThatStays(int i) {
            return within(i, 0, staying.length - 1) ? staying[i] : NONE;
        }
    }
}
