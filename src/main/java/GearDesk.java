import java.util.Arrays;

/**
 * A desk for makers of clocks: trains of wheels for a wanted ratio, gears and how fast each turns,
 * and dials with their hands.
 */
public final class GearDesk {
    public static final int NONE = -1;

    private static final int MOST_GEARS = 60;
    private static final int MOST_RELATIONS = 120;
    private static final int DIALS = 12;
    private static final int MOST_DIVISIONS = 100000;
    private static final int MOST_FUEL = 1000000;
    private static final int MOST_BITS = 256;
    private static final int WORDS = 8;
    private static final int PARTS = 4;

    private static final int MESH = 0;
    private static final int INNER = 1;
    private static final int ARBOR = 2;
    private static final int PLANET = 3;

    private final Trains trains;
    private final Works works;
    private final Equations equations;
    private final Hands hands;
    private final int[] dialGears;
    private final int[] dialDivisions;
    private final Fraction result;
    private Speeds speeds;
    private Speeds spareSpeeds;

    public GearDesk() {
        trains = new Trains();
        works = new Works();
        Calculator calculator = new Calculator();
        equations = new Equations(calculator);
        hands = new Hands(calculator);
        dialGears = new int[DIALS];
        dialDivisions = new int[DIALS];
        result = new Fraction(Fraction.KEPT_LIMBS);
        result.bottom.setLong(1);
        speeds = new Speeds();
        spareSpeeds = new Speeds();
        Arrays.fill(dialGears, NONE);
    }

    public int want(int num, int den, int stages, int low, int high) throws IllegalArgumentException {
        if (num < 1 || den < 1 || !Trains.areAllowed(stages, low, high)) {
            throw new IllegalArgumentException();
        }
        return trains.begin(num, den, stages, low, high);
    }

    public boolean search(int fuel) throws IllegalArgumentException, IllegalStateException {
        if (fuel < 1 || fuel > MOST_FUEL) {
            throw new IllegalArgumentException();
        }
        if (!trains.hasTask()) {
            throw new IllegalStateException();
        }
        trains.goThrough(fuel);
        return trains.choicesLeft() == 0;
    }

    public int tooth(int stage, int side) throws IllegalStateException, IndexOutOfBoundsException {
        needBestTrain();
        if (stage < 0 || stage >= trains.stages || side < 0 || side > 1) {
            throw new IndexOutOfBoundsException();
        }
        return trains.bestWheel(stage, side);
    }

    public long error(int part) throws IllegalStateException, IndexOutOfBoundsException {
        needBestTrain();
        if (part < 0 || part > 1) {
            throw new IndexOutOfBoundsException();
        }
        return trains.bestError(part);
    }

    public int quotient(int num, int den, int i) throws IllegalArgumentException, IndexOutOfBoundsException {
        if (num < 1 || den < 1) {
            throw new IllegalArgumentException();
        }
        if (i < 0) {
            throw new IndexOutOfBoundsException();
        }
        int top = num;
        int bottom = den;
        for (int step = 0; step < i && bottom != 0; step++) {
            int rest = top % bottom;
            top = bottom;
            bottom = rest;
        }
        if (bottom == 0) {
            throw new IndexOutOfBoundsException();
        }
        return top / bottom;
    }

    public int gear(int teeth) throws IllegalArgumentException, IllegalStateException {
        if (teeth < 4 || teeth > 1000) {
            throw new IllegalArgumentException();
        }
        if (works.gears == MOST_GEARS) {
            throw new IllegalStateException();
        }
        return works.addGear(teeth);
    }

    public int mesh(int a, int b)
            throws IndexOutOfBoundsException, IllegalArgumentException, IllegalStateException {
        needTwoGears(a, b);
        needRoomForRelation();
        return works.addRelation(MESH, a, b, NONE);
    }

    public int inner(int a, int b)
            throws IndexOutOfBoundsException, IllegalArgumentException, IllegalStateException {
        needTwoGears(a, b);
        if (works.teeth[b] <= works.teeth[a]) {
            throw new IllegalArgumentException();
        }
        needRoomForRelation();
        return works.addRelation(INNER, a, b, NONE);
    }

    public int arbor(int a, int b)
            throws IndexOutOfBoundsException, IllegalArgumentException, IllegalStateException {
        needTwoGears(a, b);
        needRoomForRelation();
        return works.addRelation(ARBOR, a, b, NONE);
    }

    public int planet(int sun, int ring, int carrier)
            throws IndexOutOfBoundsException, IllegalArgumentException, IllegalStateException {
        needGear(sun);
        needGear(ring);
        needGear(carrier);
        if (sun == ring || sun == carrier || ring == carrier) {
            throw new IllegalArgumentException();
        }
        needRoomForRelation();
        return works.addRelation(PLANET, sun, ring, carrier);
    }

    public int remove(int relation) throws IndexOutOfBoundsException {
        needRelation(relation);
        works.dropRelation(relation);
        return works.relations;
    }

    public int relation(int relation, int what) throws IndexOutOfBoundsException {
        needRelation(relation);
        if (what < 0 || what >= PARTS) {
            throw new IndexOutOfBoundsException();
        }
        return works.part(relation, what);
    }

    public int crank(int gear) throws IndexOutOfBoundsException {
        needGear(gear);
        int before = works.crank;
        works.crank = gear;
        return before;
    }

    public int solve() throws IllegalStateException, UnsupportedOperationException {
        if (works.crank == NONE) {
            throw new IllegalStateException();
        }
        int clash = equations.takeAll(works);
        if (clash != NONE) {
            return works.lowestGear(clash);
        }
        if (!equations.readSpeeds(spareSpeeds)) {
            throw new UnsupportedOperationException();
        }
        Speeds found = spareSpeeds;
        spareSpeeds = speeds;
        speeds = found;
        return NONE;
    }

    public int speed(int gear, int part, int i) throws IndexOutOfBoundsException, IllegalStateException {
        needGear(gear);
        if (part < 0 || part > 2 || i < 0 || i >= (part == 0 ? 1 : WORDS)) {
            throw new IndexOutOfBoundsException();
        }
        if (!speeds.known[gear]) {
            throw new IllegalStateException();
        }
        Fraction value = speeds.values[gear];
        if (part == 0) {
            return value.top.sign;
        }
        return part == 1 ? value.top.word(i) : value.bottom.word(i);
    }

    public int dial(int k, int gear, int divisions) throws IndexOutOfBoundsException, IllegalArgumentException {
        if (k < 0 || k >= DIALS) {
            throw new IndexOutOfBoundsException();
        }
        needGear(gear);
        if (divisions < 1 || divisions > MOST_DIVISIONS) {
            throw new IllegalArgumentException();
        }
        int before = dialGears[k];
        dialGears[k] = gear;
        dialDivisions[k] = divisions;
        return before;
    }

    public int position(int k, int num, int den)
            throws IndexOutOfBoundsException, IllegalArgumentException, IllegalStateException,
            UnsupportedOperationException {
        needDial(k);
        if (den < 1) {
            throw new IllegalArgumentException();
        }
        int gear = dialGears[k];
        if (!speeds.known[gear]) {
            throw new IllegalStateException();
        }
        int division = hands.point(speeds.values[gear], num, den, dialDivisions[k]);
        keepFound();
        return division;
    }

    public boolean meet(int k, int l) throws IndexOutOfBoundsException, UnsupportedOperationException {
        needDial(k);
        needDial(l);
        int a = dialGears[k];
        int b = dialGears[l];
        if (!speeds.known[a] || !speeds.known[b] || !hands.turnsToMeet(speeds.values[a], speeds.values[b])) {
            return false;
        }
        keepFound();
        return true;
    }

    public boolean back() throws UnsupportedOperationException {
        for (int k = 0; k < DIALS; k++) {
            if (dialGears[k] != NONE && !speeds.known[dialGears[k]]) {
                return false;
            }
        }
        hands.beginReturn();
        for (int k = 0; k < DIALS; k++) {
            if (dialGears[k] != NONE) {
                hands.alsoReturn(speeds.values[dialGears[k]]);
            }
        }
        if (!hands.anyReturns()) {
            return false;
        }
        keepFound();
        return true;
    }

    public int result(int part, int i) throws IndexOutOfBoundsException {
        if (part < 0 || part > 1 || i < 0 || i >= WORDS) {
            throw new IndexOutOfBoundsException();
        }
        return part == 0 ? result.top.word(i) : result.bottom.word(i);
    }

    public int clear() {
        int before = works.gears;
        works.empty();
        speeds.forget();
        Arrays.fill(dialGears, NONE);
        return before;
    }

    public int count(int what) {
        switch (what) {
            case 0:
                return works.gears;
            case 1:
                return works.relations;
            case 2:
                return dialsInUse();
            case 3:
                return speeds.howMany();
            case 4:
                return trains.choicesLeft();
            default:
                return NONE;
        }
    }

    private int dialsInUse() {
        int inUse = 0;
        for (int k = 0; k < DIALS; k++) {
            if (dialGears[k] != NONE) {
                inUse++;
            }
        }
        return inUse;
    }

    private void needBestTrain() {
        if (!trains.hasTask() || trains.choicesLeft() > 0) {
            throw new IllegalStateException();
        }
    }

    private void needGear(int gear) {
        if (gear < 0 || gear >= works.gears) {
            throw new IndexOutOfBoundsException();
        }
    }

    private void needTwoGears(int a, int b) {
        needGear(a);
        needGear(b);
        if (a == b) {
            throw new IllegalArgumentException();
        }
    }

    private void needRoomForRelation() {
        if (works.relations == MOST_RELATIONS) {
            throw new IllegalStateException();
        }
    }

    private void needRelation(int relation) {
        if (relation < 0 || relation >= works.relations) {
            throw new IndexOutOfBoundsException();
        }
    }

    private void needDial(int k) {
        if (k < 0 || k >= DIALS || dialGears[k] == NONE) {
            throw new IndexOutOfBoundsException();
        }
    }

    private void keepFound() {
        if (hands.found.isTooLarge()) {
            throw new UnsupportedOperationException();
        }
        result.copyFrom(hands.found);
    }

    /**
     * The task and its search. The choices are sorted by the product of their wheels and gone through
     * in that order: so the driven wheels that fit best only ever move up, and a search looks at each
     * choice once as drivers and once as driven wheels. The order can't be seen from outside.
     */
    private static final class Trains {
        private static final int MOST_STAGES = 4;
        /** 60 numbers of teeth with three stages have the most choices. */
        private static final int MOST_CHOICES = 37820;
        /** No choice has the product 0. */
        private static final long NO_CHOICE = 0;
        private static final int WHEEL_BITS = 7;
        private static final int WHEEL_MASK = (1 << WHEEL_BITS) - 1;
        private static final int LIST_BITS = WHEEL_BITS * MOST_STAGES;
        /** 120 to the fourth, the greatest product, has no more. */
        private static final int PRODUCT_BITS = 28;
        private static final int DIGIT_BITS = 11;
        private static final int DIGIT_MASK = (1 << DIGIT_BITS) - 1;

        /** A choice is one number: the product of its wheels above, the wheels in rising order below. */
        private long[] choices;
        private long[] spareChoices;
        private final int[] tally;
        private final int[] wheels;
        private long num;
        private long den;
        int stages;
        private int low;
        private int high;
        private int total;
        private int done;
        /** The best choices with the next product below the wanted one and with the next from it on. */
        private int below;
        private int above;
        private int groupEnd;
        private long bestDrivers;
        private long bestDriven;
        private long bestGap;

        Trains() {
            choices = new long[MOST_CHOICES];
            spareChoices = new long[MOST_CHOICES];
            tally = new int[1 << DIGIT_BITS];
            wheels = new int[MOST_STAGES];
        }

        static boolean areAllowed(int stages, int low, int high) {
            if (stages < 1 || stages > MOST_STAGES || low < 8 || high < low || high > 120) {
                return false;
            }
            int numbers = high - low + 1;
            return !(stages == 3 && numbers > 60) && !(stages == 4 && numbers > 20);
        }

        int begin(int wantedNum, int wantedDen, int wantedStages, int least, int greatest) {
            num = wantedNum;
            den = wantedDen;
            stages = wantedStages;
            low = least;
            high = greatest;
            total = 1;
            for (int s = 1; s <= stages; s++) {
                total = total * (high - low + s) / s;
            }
            done = 0;
            return total;
        }

        boolean hasTask() {
            return total > 0;
        }

        int choicesLeft() {
            return total - done;
        }

        void goThrough(int fuel) {
            // Not made by begin(): many tasks may come and go without a search.
            if (done == 0) {
                prepare();
            }
            int end = done + Math.min(fuel, total - done);
            for (int i = done; i < end; i++) {
                tryDrivers(choices[i]);
            }
            done = end;
        }

        int bestWheel(int stage, int side) {
            return wheel(side == 0 ? bestDrivers : bestDriven, stage);
        }

        long bestError(int part) {
            long bottom = product(bestDriven) * den;
            long common = commonDivisor(bestGap, bottom);
            return (part == 0 ? bestGap : bottom) / common;
        }

        private void prepare() {
            listChoices();
            sortByProduct();
            bestDriven = NO_CHOICE;
            below = NONE;
            groupEnd = 0;
            takeGroup();
        }

        private void listChoices() {
            Arrays.fill(wheels, low);
            for (int i = 0; i < total; i++) {
                long product = 1;
                long list = 0;
                for (int s = 0; s < stages; s++) {
                    product *= wheels[s];
                    list = list << WHEEL_BITS | wheels[s];
                }
                choices[i] = product << LIST_BITS | list;
                stepWheels();
            }
        }

        private void stepWheels() {
            int from = stages - 1;
            while (from > 0 && wheels[from] == high) {
                from--;
            }
            Arrays.fill(wheels, from, stages, wheels[from] + 1);
        }

        private void sortByProduct() {
            long greatest = product(choices[total - 1]);
            for (int shift = 0; shift < PRODUCT_BITS && greatest >> shift > 0; shift += DIGIT_BITS) {
                sortByDigit(LIST_BITS + shift);
            }
        }

        /** Keeps the order of choices with the same digit, so that earlier passes are not undone. */
        private void sortByDigit(int shift) {
            Arrays.fill(tally, 0);
            for (int i = 0; i < total; i++) {
                tally[digit(choices[i], shift)]++;
            }
            int start = 0;
            for (int d = 0; d < tally.length; d++) {
                int alike = tally[d];
                tally[d] = start;
                start += alike;
            }
            for (int i = 0; i < total; i++) {
                int d = digit(choices[i], shift);
                spareChoices[tally[d]] = choices[i];
                tally[d]++;
            }
            long[] sorted = spareChoices;
            spareChoices = choices;
            choices = sorted;
        }

        /** Of choices with one product only the first with the fewest teeth can be in the best train. */
        private void takeGroup() {
            int first = groupEnd;
            above = first < total ? first : NONE;
            if (above == NONE) {
                return;
            }
            int i = first + 1;
            while (i < total && product(choices[i]) == product(choices[first])) {
                if (teeth(choices[i]) < teeth(choices[above])) {
                    above = i;
                }
                i++;
            }
            groupEnd = i;
        }

        private void tryDrivers(long drivers) {
            long wanted = product(drivers) * den;
            for (int step = 0; step < total && isBelow(above, wanted); step++) {
                below = above;
                takeGroup();
            }
            if (below != NONE) {
                tryTrain(drivers, choices[below]);
            }
            if (above != NONE) {
                tryTrain(drivers, choices[above]);
            }
        }

        private boolean isBelow(int choice, long wanted) {
            return choice != NONE && product(choices[choice]) * num < wanted;
        }

        private void tryTrain(long drivers, long driven) {
            long gap = Math.abs(product(drivers) * den - product(driven) * num);
            if (bestDriven == NO_CHOICE || isBetter(drivers, driven, gap)) {
                bestDrivers = drivers;
                bestDriven = driven;
                bestGap = gap;
            }
        }

        private boolean isBetter(long drivers, long driven, long gap) {
            int order = compareRatios(gap, product(driven), bestGap, product(bestDriven));
            if (order == 0) {
                order = (teeth(drivers) + teeth(driven)) - (teeth(bestDrivers) + teeth(bestDriven));
            }
            for (int s = 0; s < stages && order == 0; s++) {
                order = wheel(drivers, s) - wheel(bestDrivers, s);
                if (order == 0) {
                    order = wheel(driven, s) - wheel(bestDriven, s);
                }
            }
            return order < 0;
        }

        /** Whole parts first: the products of the ratios as they stand would not fit a long. */
        private static int compareRatios(long a, long b, long c, long d) {
            int order = Long.compare(a / b, c / d);
            return order != 0 ? order : Long.compare(a % b * d, c % d * b);
        }

        private static long commonDivisor(long a, long b) {
            long left = a;
            long right = b;
            for (int step = 0; step < 200 && right != 0; step++) {
                long rest = left % right;
                left = right;
                right = rest;
            }
            return left;
        }

        private static long product(long choice) {
            return choice >> LIST_BITS;
        }

        private static int digit(long choice, int shift) {
            return (int) (choice >> shift) & DIGIT_MASK;
        }

        private int wheel(long choice, int stage) {
            return (int) (choice >> WHEEL_BITS * (stages - 1 - stage)) & WHEEL_MASK;
        }

        private int teeth(long choice) {
            int sum = 0;
            for (int s = 0; s < stages; s++) {
                sum += wheel(choice, s);
            }
            return sum;
        }
    }

    /** The gears, the relations and the crank. */
    private static final class Works {
        final int[] teeth;
        private final int[] parts;
        int gears;
        int relations;
        int crank;

        Works() {
            teeth = new int[MOST_GEARS];
            parts = new int[MOST_RELATIONS * PARTS];
            crank = NONE;
        }

        int addGear(int newTeeth) {
            teeth[gears] = newTeeth;
            gears++;
            return gears - 1;
        }

        int addRelation(int kind, int first, int second, int third) {
            int at = relations * PARTS;
            parts[at] = kind;
            parts[at + 1] = first;
            parts[at + 2] = second;
            parts[at + 3] = third;
            relations++;
            return relations - 1;
        }

        void dropRelation(int number) {
            int at = number * PARTS;
            relations--;
            System.arraycopy(parts, at + PARTS, parts, at, relations * PARTS - at);
        }

        int part(int number, int what) {
            return parts[number * PARTS + what];
        }

        int lowestGear(int number) {
            int lowest = Math.min(part(number, 1), part(number, 2));
            int third = part(number, 3);
            return third == NONE ? lowest : Math.min(lowest, third);
        }

        void empty() {
            gears = 0;
            relations = 0;
            crank = NONE;
        }
    }

    /** The speeds that one solve() found. */
    private static final class Speeds {
        final boolean[] known;
        final Fraction[] values;

        Speeds() {
            known = new boolean[MOST_GEARS];
            values = new Fraction[MOST_GEARS];
            for (int g = 0; g < MOST_GEARS; g++) {
                values[g] = new Fraction(Fraction.KEPT_LIMBS);
            }
        }

        void forget() {
            for (int g = 0; g < MOST_GEARS; g++) {
                known[g] = false;
            }
        }

        int howMany() {
            int sum = 0;
            for (int g = 0; g < MOST_GEARS; g++) {
                if (known[g]) {
                    sum++;
                }
            }
            return sum;
        }
    }

    /**
     * The relations as equations, one column for each gear's speed, taken in one by one. Every row has
     * a column to itself, in which it holds the number `common` and all others hold 0. All numbers stay
     * whole: by Bareiss each is a determinant of the relations' factors, so the division by the common
     * number before leaves no rest.
     */
    private static final class Equations {
        private static final int MOST_TERMS = 3;
        /**
         * A row of factors is at most (1000, 1000, -2000) long, that is below 2450, and so a determinant
         * of 60 rows is below 2450 to the 60th (Hadamard), which has 676 bits: 22 limbs of 31.
         */
        private static final int CELL_LIMBS = 22;

        private final Calculator calculator;
        private final int[] cells;
        /** How many limbs of a cell are in use; below 0 when the number is. */
        private final int[] sizes;
        private final int[] rowOf;
        private final int[] termGears;
        private final int[] termFactors;
        private final Whole cell;
        private final Whole factor;
        private final Whole product;
        private final Whole sum;
        private final Fraction speed;
        private Whole common;
        private Whole pivot;
        private int terms;
        private int columns;
        private int rows;
        private int crank;

        Equations(Calculator withCalculator) {
            calculator = withCalculator;
            cells = new int[MOST_GEARS * MOST_GEARS * CELL_LIMBS];
            sizes = new int[MOST_GEARS * MOST_GEARS];
            rowOf = new int[MOST_GEARS];
            termGears = new int[MOST_TERMS];
            termFactors = new int[MOST_TERMS];
            cell = new Whole(Calculator.LIMBS);
            factor = new Whole(Calculator.LIMBS);
            product = new Whole(Calculator.LIMBS);
            sum = new Whole(Calculator.LIMBS);
            speed = new Fraction(Calculator.LIMBS);
            common = new Whole(Calculator.LIMBS);
            pivot = new Whole(Calculator.LIMBS);
        }

        /** The first relation that clashes, or NONE. */
        int takeAll(Works works) {
            columns = works.gears;
            crank = works.crank;
            rows = 0;
            common.setLong(1);
            Arrays.fill(rowOf, NONE);
            for (int r = 0; r < works.relations; r++) {
                setTerms(works, r);
                int own = makeNewRow();
                if (own != NONE) {
                    giveColumn(own);
                } else if (sizes[at(rows, crank)] != 0) {
                    // Nothing but the crank is left in it, whose speed would have to be 0.
                    return r;
                }
            }
            return NONE;
        }

        /** Whether no speed is too large. */
        boolean readSpeeds(Speeds into) {
            into.forget();
            for (int g = 0; g < columns; g++) {
                into.known[g] = isDetermined(g);
                if (into.known[g]) {
                    readSpeed(g);
                    if (speed.isTooLarge()) {
                        return false;
                    }
                    into.values[g].copyFrom(speed);
                }
            }
            return true;
        }

        private void setTerms(Works works, int relation) {
            terms = 0;
            int a = works.part(relation, 1);
            int b = works.part(relation, 2);
            int aTeeth = works.teeth[a];
            int bTeeth = works.teeth[b];
            switch (works.part(relation, 0)) {
                case MESH:
                    addTerm(a, aTeeth);
                    addTerm(b, bTeeth);
                    break;
                case INNER:
                    addTerm(a, aTeeth);
                    addTerm(b, -bTeeth);
                    break;
                case ARBOR:
                    addTerm(a, 1);
                    addTerm(b, -1);
                    break;
                default:
                    addTerm(a, aTeeth);
                    addTerm(b, bTeeth);
                    addTerm(works.part(relation, 3), -aTeeth - bTeeth);
                    break;
            }
        }

        private void addTerm(int gear, int gearFactor) {
            termGears[terms] = gear;
            termFactors[terms] = gearFactor;
            terms++;
        }

        /** The terms less what the rows know of them: the first column that may be the new row's own, or NONE. */
        private int makeNewRow() {
            int own = NONE;
            for (int c = 0; c < columns; c++) {
                if (rowOf[c] == NONE) {
                    fillNewCell(c);
                    if (own == NONE && c != crank && sizes[at(rows, c)] != 0) {
                        own = c;
                    }
                }
            }
            return own;
        }

        private void fillNewCell(int column) {
            sum.setLong(0);
            for (int t = 0; t < terms; t++) {
                int row = rowOf[termGears[t]];
                if (termGears[t] == column) {
                    factor.setLong(-termFactors[t]);
                    product.setProduct(common, factor);
                    sum.setDifference(sum, product);
                } else if (row != NONE && sizes[at(row, column)] != 0) {
                    load(cell, row, column);
                    factor.setLong(termFactors[t]);
                    product.setProduct(cell, factor);
                    sum.setDifference(sum, product);
                }
            }
            store(sum, rows, column);
        }

        private void giveColumn(int column) {
            load(pivot, rows, column);
            for (int row = 0; row < rows; row++) {
                clearColumn(row, column);
            }
            rowOf[column] = rows;
            rows++;
            Whole before = common;
            common = pivot;
            pivot = before;
        }

        private void clearColumn(int row, int column) {
            load(factor, row, column);
            for (int c = 0; c < columns; c++) {
                boolean stays = sizes[at(row, c)] == 0 && (factor.sign == 0 || sizes[at(rows, c)] == 0);
                if (rowOf[c] != NONE || c == column || stays) {
                    continue;
                }
                load(cell, row, c);
                sum.setProduct(pivot, cell);
                load(cell, rows, c);
                product.setProduct(factor, cell);
                sum.setDifference(sum, product);
                calculator.divide(sum, common);
                store(calculator.quotient, row, c);
            }
        }

        private boolean isDetermined(int gear) {
            if (gear == crank) {
                return true;
            }
            if (rowOf[gear] == NONE) {
                return false;
            }
            for (int c = 0; c < columns; c++) {
                if (rowOf[c] == NONE && c != crank && sizes[at(rowOf[gear], c)] != 0) {
                    return false;
                }
            }
            return true;
        }

        private void readSpeed(int gear) {
            if (gear == crank) {
                speed.top.setLong(1);
                speed.bottom.setLong(1);
                return;
            }
            load(speed.top, rowOf[gear], crank);
            speed.bottom.copyFrom(common);
            speed.top.sign = -speed.top.sign * common.sign;
            speed.bottom.sign = 1;
            calculator.reduce(speed);
        }

        private static int at(int row, int column) {
            return row * MOST_GEARS + column;
        }

        private void load(Whole into, int row, int column) {
            int place = at(row, column);
            into.size = Math.abs(sizes[place]);
            into.sign = Integer.signum(sizes[place]);
            System.arraycopy(cells, place * CELL_LIMBS, into.limbs, 0, into.size);
        }

        private void store(Whole from, int row, int column) {
            int place = at(row, column);
            sizes[place] = from.sign * from.size;
            System.arraycopy(from.limbs, 0, cells, place * CELL_LIMBS, from.size);
        }
    }

    /** Where hands point and when they meet; what it answers is in `found`. */
    private static final class Hands {
        private final Calculator calculator;
        final Fraction found;
        private final Whole factor;
        private final Whole product;
        private final Whole common;

        Hands(Calculator withCalculator) {
            calculator = withCalculator;
            found = new Fraction(Calculator.LIMBS);
            factor = new Whole(Calculator.LIMBS);
            product = new Whole(Calculator.LIMBS);
            common = new Whole(Calculator.LIMBS);
        }

        /** The division that the hand has passed; found is how far it is on to the next. */
        int point(Fraction speed, int num, int den, int divisions) {
            factor.setLong(den);
            found.bottom.setProduct(speed.bottom, factor);
            factor.setLong(num);
            product.setProduct(speed.top, factor);
            calculator.divide(product, found.bottom);
            product.copyFrom(calculator.remainder);
            if (product.sign < 0) {
                product.sign = 1;
                product.setDifference(found.bottom, product);
            }
            factor.setLong(divisions);
            found.top.setProduct(product, factor);
            calculator.divide(found.top, found.bottom);
            found.top.copyFrom(calculator.remainder);
            int division = calculator.quotient.word(0);
            calculator.reduce(found);
            return division;
        }

        /** Whether there are any; these are found. */
        boolean turnsToMeet(Fraction a, Fraction b) {
            found.bottom.setProduct(a.top, b.bottom);
            product.setProduct(b.top, a.bottom);
            found.bottom.setDifference(found.bottom, product);
            if (found.bottom.sign == 0) {
                return false;
            }
            found.bottom.sign = 1;
            found.top.setProduct(a.bottom, b.bottom);
            calculator.reduce(found);
            return true;
        }

        void beginReturn() {
            found.top.setLong(1);
            found.bottom.setLong(0);
        }

        /**
         * The turns are the least common multiple of the hands' denominators by the greatest common
         * divisor of their numerators. These share no factor, so once too large they stay so.
         */
        void alsoReturn(Fraction speed) {
            if (speed.top.sign == 0 || found.isTooLarge()) {
                return;
            }
            calculator.findDivisor(found.top, speed.bottom, common);
            calculator.divide(found.top, common);
            found.top.setProduct(calculator.quotient, speed.bottom);
            calculator.findDivisor(found.bottom, speed.top, common);
            found.bottom.copyFrom(common);
        }

        boolean anyReturns() {
            return found.bottom.sign != 0;
        }
    }

    /** A fraction; its bottom is above 0. */
    private static final class Fraction {
        /** Enough for MOST_BITS. */
        static final int KEPT_LIMBS = 9;

        final Whole top;
        final Whole bottom;

        Fraction(int limbs) {
            top = new Whole(limbs);
            bottom = new Whole(limbs);
        }

        boolean isTooLarge() {
            return top.bits() > MOST_BITS || bottom.bits() > MOST_BITS;
        }

        void copyFrom(Fraction other) {
            top.copyFrom(other.top);
            bottom.copyFrom(other.bottom);
        }
    }

    /** What needs room of its own to be worked out. */
    private static final class Calculator {
        /** The largest numbers are products of two cells of the equations: 44 limbs. */
        static final int LIMBS = 48;
        /** More steps than Euclid needs for any two numbers of that length. */
        private static final int MOST_STEPS = 10000;

        final Whole quotient;
        final Whole remainder;
        private final Whole divisor;
        private final Whole left;
        private final Whole right;
        private final Whole common;

        Calculator() {
            quotient = new Whole(LIMBS);
            remainder = new Whole(LIMBS);
            divisor = new Whole(LIMBS);
            left = new Whole(LIMBS);
            right = new Whole(LIMBS);
            common = new Whole(LIMBS);
        }

        void reduce(Fraction fraction) {
            findDivisor(fraction.top, fraction.bottom, common);
            divide(fraction.top, common);
            fraction.top.copyFrom(quotient);
            divide(fraction.bottom, common);
            fraction.bottom.copyFrom(quotient);
        }

        /** The greatest common divisor, 0 when both are 0. */
        void findDivisor(Whole a, Whole b, Whole into) {
            left.copyFrom(a);
            right.copyFrom(b);
            for (int step = 0; step < MOST_STEPS && right.sign != 0; step++) {
                divide(left, right);
                left.copyFrom(right);
                right.copyFrom(remainder);
            }
            into.copyFrom(left);
            into.sign = Math.abs(into.sign);
        }

        /** Leaves the quotient, cut towards 0, and the remainder, which has the sign of a. */
        void divide(Whole a, Whole b) {
            if (b.size == 0 || a.size < b.size) {
                quotient.setLong(0);
                remainder.copyFrom(a);
                return;
            }
            // Knuth's way of guessing a limb needs a divisor whose highest bit is set.
            int shift = Integer.numberOfLeadingZeros(b.limbs[b.size - 1]) - 1;
            int length = b.size;
            int places = a.size - length + 1;
            divisor.shiftUp(b, shift);
            remainder.shiftUp(a, shift);
            for (int place = places - 1; place >= 0; place--) {
                long guess = guessTimes(remainder.limbs, divisor.limbs, place, length);
                quotient.limbs[place] = takeMultiple(remainder.limbs, divisor.limbs, place, length, guess);
            }
            quotient.settle(places, a.sign * b.sign);
            remainder.shiftDown(length, shift);
            remainder.settle(length, a.sign);
        }

        /** By the two highest limbs of the divisor, whose highest bit is set: right, or one too high. */
        private static long guessTimes(int[] rest, int[] by, int place, int length) {
            long first = by[length - 1];
            long second = length > 1 ? by[length - 2] : 0;
            long third = length > 1 ? rest[place + length - 2] : 0;
            long head = (long) rest[place + length] << Whole.LIMB_BITS | rest[place + length - 1];
            long times = head / first;
            long over = head % first;
            for (int tries = 0; tries < 2 && over <= Whole.LIMB_MASK; tries++) {
                if (times > Whole.LIMB_MASK || times * second > (over << Whole.LIMB_BITS | third)) {
                    times--;
                    over += first;
                }
            }
            return times;
        }

        /** Takes the divisor from the rest at a place as often as guessed, or once less: how often. */
        private static int takeMultiple(int[] rest, int[] by, int place, int length, long guess) {
            long carry = 0;
            for (int i = 0; i < length; i++) {
                long t = rest[place + i] + carry - guess * by[i];
                rest[place + i] = (int) (t & Whole.LIMB_MASK);
                carry = t >> Whole.LIMB_BITS;
            }
            long top = rest[place + length] + carry;
            rest[place + length] = 0;
            if (top >= 0) {
                return (int) guess;
            }
            carry = 0;
            for (int i = 0; i < length; i++) {
                long t = (long) rest[place + i] + by[i] + carry;
                rest[place + i] = (int) (t & Whole.LIMB_MASK);
                carry = t >> Whole.LIMB_BITS;
            }
            return (int) guess - 1;
        }
    }

    /**
     * A whole number of a bounded length, to be used again and again. It has limbs of 31 bits, the lowest
     * first: so the product of two limbs with two more added still fits a long.
     */
    private static final class Whole {
        static final int LIMB_BITS = 31;
        static final long LIMB_MASK = (1L << LIMB_BITS) - 1;
        private static final int WORD_BITS = 32;

        final int[] limbs;
        int size;
        int sign;

        Whole(int mostLimbs) {
            limbs = new int[mostLimbs];
        }

        void setLong(long value) {
            long left = Math.abs(value);
            for (int i = 0; i < 3; i++) {
                limbs[i] = (int) (left & LIMB_MASK);
                left >>>= LIMB_BITS;
            }
            settle(3, Long.signum(value));
        }

        void copyFrom(Whole other) {
            System.arraycopy(other.limbs, 0, limbs, 0, other.size);
            size = other.size;
            sign = other.sign;
        }

        int bits() {
            return size == 0 ? 0 : size * LIMB_BITS + 1 - Integer.numberOfLeadingZeros(limbs[size - 1]);
        }

        /** A word begins inside a limb and never reaches beyond the next one. */
        int word(int i) {
            int from = i * WORD_BITS / LIMB_BITS;
            long low = from < size ? limbs[from] : 0;
            long high = from + 1 < size ? limbs[from + 1] : 0;
            return (int) ((high << LIMB_BITS | low) >> i * WORD_BITS % LIMB_BITS);
        }

        /** This must be none of the two. */
        void setProduct(Whole a, Whole b) {
            int length = a.size + b.size;
            Arrays.fill(limbs, 0, length, 0);
            for (int i = 0; i < a.size; i++) {
                long times = a.limbs[i];
                long carry = 0;
                for (int j = 0; j < b.size; j++) {
                    long t = times * b.limbs[j] + limbs[i + j] + carry;
                    limbs[i + j] = (int) (t & LIMB_MASK);
                    carry = t >> LIMB_BITS;
                }
                limbs[i + b.size] = (int) carry;
            }
            settle(length, a.sign * b.sign);
        }

        void setDifference(Whole a, Whole b) {
            if (a.sign * b.sign < 0) {
                combine(a, b, 1, a.sign);
            } else if (isShorter(a, b)) {
                combine(b, a, -1, -b.sign);
            } else {
                combine(a, b, -1, a.sign);
            }
        }

        private static boolean isShorter(Whole a, Whole b) {
            if (a.size != b.size) {
                return a.size < b.size;
            }
            int i = a.size - 1;
            while (i > 0 && a.limbs[i] == b.limbs[i]) {
                i--;
            }
            return i >= 0 && a.limbs[i] < b.limbs[i];
        }

        /** Adds (way 1) or takes away (way -1) without regard to signs; then a is not the shorter one. */
        private void combine(Whole a, Whole b, int way, int newSign) {
            int length = Math.max(a.size, b.size);
            long carry = 0;
            for (int i = 0; i < length; i++) {
                long t = carry;
                t += i < a.size ? a.limbs[i] : 0;
                t += i < b.size ? way * b.limbs[i] : 0;
                limbs[i] = (int) (t & LIMB_MASK);
                carry = t >> LIMB_BITS;
            }
            if (carry > 0) {
                limbs[length] = (int) carry;
                length++;
            }
            settle(length, newSign);
        }

        /** Fills one limb more than the other has. */
        void shiftUp(Whole other, int shift) {
            long carry = 0;
            for (int i = 0; i < other.size; i++) {
                long t = (long) other.limbs[i] << shift | carry;
                limbs[i] = (int) (t & LIMB_MASK);
                carry = t >> LIMB_BITS;
            }
            limbs[other.size] = (int) carry;
        }

        void shiftDown(int length, int shift) {
            for (int i = 0; i < length; i++) {
                long next = i + 1 < length ? limbs[i + 1] : 0;
                limbs[i] = (int) ((next << LIMB_BITS | limbs[i]) >> shift & LIMB_MASK);
            }
        }

        void settle(int length, int newSign) {
            size = length;
            while (size > 0 && limbs[size - 1] == 0) {
                size--;
            }
            sign = size == 0 ? 0 : newSign;
        }
    }
}
