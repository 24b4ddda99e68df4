/**
 * A row of one to seven whole numbers, taken as the sums of powers of places with weights that
 * are not told. All arithmetic is exact: with moments of 500 at most every number that is met
 * here stays below 10 to the 18, so a long holds it.
 */
public final class SquaredRows {
    public static final int NONE = -1000000, BAD = -1000001, NO = -1000002, FULL = -1000003;

    /** What a change answers that nothing refuses. */
    private static final int DONE = 0;
    /** The place of a fault, the number of a refused order, where there is none. */
    private static final int NOWHERE = -1;

    private static final int MOST_MOMENTS = 7;
    private static final int MOST_SIZE = 4;
    private static final int MOST_DEGREE = 3;
    private static final int MOST_STATES = 6;
    private static final int MOST_BYTES = 100;
    private static final int MOST_STEPS = 6;
    /** An order has two bytes at least. */
    private static final int MOST_ORDERS = 50;

    private static final int FAR_MOMENT = 500;
    private static final int FAR_PLACE = 9;
    private static final int FAR_WEIGHT = 99;
    private static final int FAR_POINT = 99;
    private static final int FINEST = 9;
    private static final int ALL_PLACES = (1 << (2 * FAR_PLACE + 1)) - 1;

    private final Row row;
    /** A change is tried here first, so that a refused one leaves the row as it is. */
    private final Row trial;
    private final Minors minors;
    private final Minors shiftedMinors;
    private final Product product;
    private final States states;
    private final Text text;
    private final Reader reader;
    private final int[] findings;
    private int timesBad;
    private int timesNo;
    private int timesFull;

    public SquaredRows() {
        row = new Row();
        trial = new Row();
        minors = new Minors();
        shiftedMinors = new Minors();
        product = new Product();
        states = new States();
        text = new Text();
        reader = new Reader();
        findings = new int[4];
    }

    // ---- the row

    public int moment(int j, int v) {
        int was = row.at(j);
        trial.copy(row);
        int refused = trial.put(j, v);
        if (refused != DONE) {
            return refuse(refused);
        }
        keepTrial();
        return was;
    }

    public int more(int v) {
        trial.copy(row);
        int refused = trial.append(v);
        if (refused != DONE) {
            return refuse(refused);
        }
        keepTrial();
        return row.size();
    }

    public int less() {
        trial.copy(row);
        int refused = trial.drop();
        if (refused != DONE) {
            return refuse(refused);
        }
        keepTrial();
        return row.size();
    }

    public int adds(int x, int w) {
        trial.copy(row);
        int refused = trial.addPlace(x, w);
        if (refused != DONE) {
            return refuse(refused);
        }
        keepTrial();
        return row.at(0);
    }

    public int moves(int c) {
        trial.copy(row);
        int refused = trial.shift(c);
        if (refused != DONE) {
            return refuse(refused);
        }
        keepTrial();
        return row.at(row.size() - 1);
    }

    public int stretches(int c) {
        trial.copy(row);
        int refused = trial.scale(c);
        if (refused != DONE) {
            return refuse(refused);
        }
        keepTrial();
        return row.at(row.size() - 1);
    }

    public int weighs(int c) {
        trial.copy(row);
        int refused = trial.reweigh(c);
        if (refused != DONE) {
            return refuse(refused);
        }
        keepTrial();
        return row.at(0);
    }

    public int of(int j) {
        if (isOutside(j, 0, row.size() - 1)) {
            return refuse(BAD);
        }
        return row.at(j);
    }

    // ---- determinants, polynomials

    public long determinant(int s, int n) {
        if (isOutside(s, 0, MOST_MOMENTS - 1) || isOutside(n, 0, MOST_SIZE)) {
            return refuse(BAD);
        }
        if (!row.hasTable(s, n)) {
            return refuse(NO);
        }
        shiftedMinors.fill(row, s);
        return shiftedMinors.det(n);
    }

    public long polynomial(int n, int j, int what) {
        if (isOutside(n, 0, MOST_DEGREE) || isOutside(j, 0, n) || isOutside(what, 0, 1)) {
            return refuse(BAD);
        }
        if (!findPolynomial(n)) {
            return refuse(NO);
        }
        return part(minors.coefficient(n, j), minors.det(n), what);
    }

    public long norm(int n, int what) {
        if (isOutside(n, 0, MOST_DEGREE) || isOutside(what, 0, 1)) {
            return refuse(BAD);
        }
        if (!findPolynomial(n) || row.size() <= 2 * n) {
            return refuse(NO);
        }
        return part(minors.det(n + 1), minors.det(n), what);
    }

    public long rule(int which, int n, int what) {
        if (isOutside(which, 0, 1) || isOutside(n, which, MOST_DEGREE - 1)
                || isOutside(what, 0, 1)) {
            return refuse(BAD);
        }
        if (!findRule(n)) {
            return refuse(NO);
        }
        long here = minors.det(n);
        long next = minors.det(n + 1);
        if (which == 0) {
            // The numbers at x to the n on both sides of the rule tell A alone.
            long above = minors.coefficient(n, n - 1) * next - minors.coefficient(n + 1, n) * here;
            return part(above, here * next, what);
        }
        return part(next * minors.det(n - 1), here * here, what);
    }

    public int verdict(int what) {
        if (isOutside(what, 0, 3)) {
            return refuse(BAD);
        }
        judge();
        return findings[what];
    }

    // ---- zeros, rules

    public long value(int n, int a, int b, int what) {
        if (isOutside(n, 0, MOST_DEGREE) || isNoPoint(a, b) || isOutside(what, 0, 1)) {
            return refuse(BAD);
        }
        if (!findPolynomial(n)) {
            return refuse(NO);
        }
        return part(minors.evaluate(n, a, b), minors.det(n) * power(b, n), what);
    }

    public int under(int n, int a, int b) {
        if (isOutside(n, 1, MOST_DEGREE) || isNoPoint(a, b)) {
            return refuse(BAD);
        }
        if (!findZeros(n)) {
            return refuse(NO);
        }
        return minors.zerosBelow(n, a, b);
    }

    public int zero(int n, int i, int p) {
        if (isOutside(n, 1, MOST_DEGREE) || isOutside(i, 0, n - 1) || isOutside(p, 1, FINEST)) {
            return refuse(BAD);
        }
        if (!findZeros(n)) {
            return refuse(NO);
        }
        return enclose(n, i, p);
    }

    public long weight(int places, int x, int what) {
        if (isNoSet(places) || isOutside(x, -FAR_PLACE, FAR_PLACE)
                || (places & bitOf(x)) == 0 || isOutside(what, 0, 1)) {
            return refuse(BAD);
        }
        if (Integer.bitCount(places) > row.size()) {
            return refuse(NO);
        }
        product.vanishAt(places ^ bitOf(x));
        return part(row.mean(product, 0), product.evaluate(x), what);
    }

    public int exact(int places) {
        if (isNoSet(places)) {
            return refuse(BAD);
        }
        int number = Integer.bitCount(places);
        if (number > row.size()) {
            return refuse(NO);
        }
        // Up to number - 1 the weights are made so; beyond, the rule goes on exactly as long as
        // the mean of the product that is 0 at all places, times x to the 0, 1, .., is 0.
        product.vanishAt(places);
        int e = number - 1;
        while (e + 1 < row.size() && row.mean(product, e + 1 - number) == 0) {
            e++;
        }
        return e;
    }

    // ---- fractions within fractions

    public long fraction(int n, int a, int b, int what) {
        if (isOutside(n, 1, MOST_DEGREE) || isOutside(a, -20, 20) || isOutside(b, 1, 4)
                || isOutside(what, 0, 1)) {
            return refuse(BAD);
        }
        if (!findPolynomial(n)) {
            return refuse(NO);
        }
        long below = minors.evaluate(n, a, b);
        if (below == 0) {
            return refuse(NO);
        }
        return part(b * minors.quotientMean(row, n, a, b), below, what);
    }

    public long step(int k, int what) {
        if (isOutside(k, 1, MOST_STEPS) || isOutside(what, 0, 1)) {
            return refuse(BAD);
        }
        int i = (k + 1) / 2;
        boolean odd = k % 2 == 1;
        // The other two tables are smaller ones, there whenever these are.
        if (!row.hasTable(1, i) || (!odd && !row.hasTable(0, i + 1))) {
            return refuse(NO);
        }
        minors.fill(row, 0);
        shiftedMinors.fill(row, 1);
        long above = odd ? shiftedMinors.det(i) * minors.det(i - 1)
                : minors.det(i + 1) * shiftedMinors.det(i - 1);
        long below = minors.det(i) * shiftedMinors.det(odd ? i - 1 : i);
        if (below == 0) {
            return refuse(NO);
        }
        return part(above, below, what);
    }

    // ---- texts

    public int type(int c) {
        if (isOutside(c, 0, 127)) {
            return refuse(BAD);
        }
        if (!text.append(c)) {
            return refuse(FULL);
        }
        return text.length();
    }

    public int clear() {
        int had = text.length();
        text.empty();
        return had;
    }

    public int reads() {
        int fault = reader.scan(text);
        if (fault != NOWHERE) {
            return -10 - fault;
        }
        trial.copy(row);
        int stopped = reader.perform(trial);
        if (stopped != NOWHERE) {
            return -1000 - stopped;
        }
        keepTrial();
        return reader.orders();
    }

    public int back() {
        if (states.depth() == 0) {
            return refuse(NO);
        }
        states.pop(row);
        return states.depth();
    }

    public int told(int what) {
        if (isOutside(what, 0, 5)) {
            return refuse(BAD);
        }
        return tally(what);
    }

    public long digest() {
        long h = 2357;
        for (int what = 0; what <= 5; what++) {
            h = 31 * h + tally(what);
        }
        for (int j = 0; j < row.size(); j++) {
            h = 31 * h + row.at(j);
        }
        judge();
        for (int what = 0; what < findings.length; what++) {
            h = 31 * h + findings[what];
        }
        for (int n = 0; n <= MOST_SIZE; n++) {
            if (row.hasTable(0, n)) {
                h = 31 * h + minors.det(n);
            }
        }
        for (int n = 1; n <= MOST_DEGREE; n++) {
            if (minors.hasPolynomial(n)) {
                h = digestPolynomial(h, n);
            }
        }
        return h;
    }

    // ---- what the calls share

    private int refuse(int code) {
        if (code == BAD) {
            timesBad++;
        } else if (code == NO) {
            timesNo++;
        } else {
            timesFull++;
        }
        return code;
    }

    private void keepTrial() {
        states.push(row);
        row.copy(trial);
    }

    private int tally(int what) {
        switch (what) {
            case 0:
                return timesBad;
            case 1:
                return timesNo;
            case 2:
                return timesFull;
            case 3:
                return text.length();
            case 4:
                return row.size();
            default:
                return states.depth();
        }
    }

    private long digestPolynomial(long start, int n) {
        long h = start;
        for (int j = 0; j < n; j++) {
            h = 31 * h + part(minors.coefficient(n, j), minors.det(n), 0);
            h = 31 * h + part(minors.coefficient(n, j), minors.det(n), 1);
        }
        return h;
    }

    /** Makes the minors ready and tells whether P of n is. */
    private boolean findPolynomial(int n) {
        minors.fill(row, 0);
        return minors.hasPolynomial(n);
    }

    /** Makes the minors ready and tells whether A of n is, and B of n where n is above 0. */
    private boolean findRule(int n) {
        minors.fill(row, 0);
        return (n == 0 || minors.hasPolynomial(n - 1)) && minors.hasPolynomial(n)
                && minors.hasPolynomial(n + 1);
    }

    /** Makes the minors ready and tells whether P of n is, the norms ahead being above 0. */
    private boolean findZeros(int n) {
        if (!findPolynomial(n)) {
            return false;
        }
        // Norms are each determinant by the one before, the first of which is 1.
        for (int size = 1; size <= n; size++) {
            if (minors.det(size) <= 0) {
                return false;
            }
        }
        return true;
    }

    private int enclose(int n, int i, int p) {
        int low = -FAR_POINT * p;
        int high = FAR_POINT * p;
        if (minors.zerosBelow(n, low, p) > i || minors.zerosBelow(n, high, p) <= i) {
            return NONE;
        }
        // The zero is low by p or more and below high by p all the time; each turn halves what is
        // between them, 1782 at most.
        for (int turn = 0; turn < 16 && high - low > 1; turn++) {
            int middle = low + (high - low) / 2;
            if (minors.zerosBelow(n, middle, p) <= i) {
                low = middle;
            } else {
                high = middle;
            }
        }
        return low;
    }

    private void judge() {
        minors.fill(row, 0);
        int n = 0;
        while (n <= MOST_DEGREE && row.size() > 2 * n && minors.det(n + 1) > 0) {
            n++;
        }
        if (n > MOST_DEGREE || row.size() <= 2 * n) {
            find(2, n, NONE, NONE);
            return;
        }
        if (minors.det(n + 1) < 0) {
            find(0, n, 0, NONE);
            return;
        }
        int rest = findRest(n);
        if (rest == NOWHERE) {
            find(1, n, NONE, NONE);
        } else {
            find(0, n, 1, rest);
        }
    }

    private void find(int answer, int n, int refusedBy, int rest) {
        findings[0] = answer;
        findings[1] = n;
        findings[2] = refusedBy;
        findings[3] = rest;
    }

    private int findRest(int n) {
        for (int j = n + 1; j <= row.size() - 1 - n; j++) {
            if (minors.meanTimesPower(row, n, j) != 0) {
                return j;
            }
        }
        return NOWHERE;
    }

    private static boolean isOutside(int v, int least, int most) {
        return v < least || v > most;
    }

    private static boolean isNoPoint(int a, int b) {
        return isOutside(a, -FAR_POINT, FAR_POINT) || isOutside(b, 1, FINEST);
    }

    private static boolean isNoSet(int places) {
        return isOutside(places, 1, ALL_PLACES) || Integer.bitCount(places) > MOST_MOMENTS;
    }

    private static int bitOf(int place) {
        return 1 << (place + FAR_PLACE);
    }

    private static int signOf(long v) {
        return v > 0 ? 1 : v < 0 ? -1 : 0;
    }

    private static long power(long base, int exponent) {
        long result = 1;
        for (int i = 0; i < exponent; i++) {
            result *= base;
        }
        return result;
    }

    /** The upper (what 0) or lower number of a fraction in lowest terms, the lower above 0. */
    private static long part(long above, long below, int what) {
        long divisor = commonDivisor(Math.abs(above), Math.abs(below));
        if (divisor == 0) {
            return 0;
        }
        if (below < 0) {
            divisor = -divisor;
        }
        return (what == 0 ? above : below) / divisor;
    }

    private static long commonDivisor(long one, long other) {
        long big = one;
        long small = other;
        // Each two turns halve the numbers at least: 130 turns end any pair of longs.
        for (int turn = 0; turn < 130 && small != 0; turn++) {
            long rest = big % small;
            big = small;
            small = rest;
        }
        return big;
    }

    /** The moments, and each way to change them; a change that is refused changes nothing. */
    private static final class Row {
        private final int[] moments;
        private final long[] next;
        private final Product power;
        /** 1 to 7: whatever sets it looks at that first, so that it bounds the indices below. */
        private int count;

        Row() {
            moments = new int[MOST_MOMENTS];
            next = new long[MOST_MOMENTS];
            power = new Product();
            moments[0] = 1;
            count = 1;
        }

        int size() {
            return count;
        }

        /** A moment; 0 where there is none. */
        int at(int j) {
            return j < 0 || j >= count || j >= MOST_MOMENTS ? 0 : moments[j];
        }

        boolean hasTable(int s, int n) {
            return n == 0 || count > s + 2 * (n - 1);
        }

        /** The mean of a product times x to the up. */
        long mean(Product factors, int up) {
            long sum = 0;
            for (int i = 0; i <= factors.degree(); i++) {
                sum += factors.number(i) * at(i + up);
            }
            return sum;
        }

        void copy(Row other) {
            for (int j = 0; j < MOST_MOMENTS; j++) {
                moments[j] = other.at(j);
            }
            count = other.size();
        }

        int put(int j, int v) {
            if (isOutside(j, 0, count - 1) || isNoMoment(v)) {
                return BAD;
            }
            moments[j] = v;
            return DONE;
        }

        int append(int v) {
            if (isNoMoment(v)) {
                return BAD;
            }
            if (count >= MOST_MOMENTS) {
                return FULL;
            }
            moments[count] = v;
            count++;
            return DONE;
        }

        int drop() {
            if (count <= 1) {
                return NO;
            }
            count--;
            return DONE;
        }

        int addPlace(int x, int w) {
            if (isNoShift(x) || isOutside(w, -FAR_WEIGHT, FAR_WEIGHT)) {
                return BAD;
            }
            long term = w;
            for (int j = 0; j < count; j++) {
                next[j] = moments[j] + term;
                term *= x;
            }
            return takeNext(count);
        }

        int shift(int c) {
            if (isNoShift(c)) {
                return BAD;
            }
            power.begin();
            for (int j = 0; j < count; j++) {
                next[j] = mean(power, 0);
                power.times(c);
            }
            return takeNext(count);
        }

        int scale(int c) {
            if (isNoShift(c)) {
                return BAD;
            }
            long factor = 1;
            for (int j = 0; j < count; j++) {
                next[j] = factor * moments[j];
                factor *= c;
            }
            return takeNext(count);
        }

        int reweigh(int c) {
            if (isNoShift(c)) {
                return BAD;
            }
            if (count <= 1) {
                return NO;
            }
            for (int j = 0; j < count - 1; j++) {
                next[j] = at(j + 1) - (long) c * at(j);
            }
            return takeNext(count - 1);
        }

        /** The row becomes some numbers of an order alone. */
        int replace(Reader orders, int from, int number) {
            if (isOutside(number, 1, MOST_MOMENTS)) {
                return BAD;
            }
            for (int j = 0; j < number; j++) {
                next[j] = orders.number(from + j);
            }
            return takeNext(number);
        }

        private int takeNext(int number) {
            if (isOutside(number, 1, MOST_MOMENTS)) {
                return NO;
            }
            for (int j = 0; j < number; j++) {
                if (next[j] < -FAR_MOMENT || next[j] > FAR_MOMENT) {
                    return NO;
                }
            }
            for (int j = 0; j < number; j++) {
                moments[j] = (int) next[j];
            }
            count = number;
            return DONE;
        }

        void save(int[] into, int from) {
            if (from < 0 || from > into.length - 1 - MOST_MOMENTS) {
                return;
            }
            into[from] = count;
            for (int j = 0; j < MOST_MOMENTS; j++) {
                into[from + 1 + j] = at(j);
            }
        }

        void load(int[] saved, int from) {
            if (from < 0 || from > saved.length - 1 - MOST_MOMENTS
                    || isOutside(saved[from], 1, MOST_MOMENTS)) {
                return;
            }
            count = saved[from];
            for (int j = 0; j < MOST_MOMENTS; j++) {
                moments[j] = saved[from + 1 + j];
            }
        }

        private static boolean isNoMoment(int v) {
            return isOutside(v, -FAR_MOMENT, FAR_MOMENT);
        }

        private static boolean isNoShift(int c) {
            return isOutside(c, -FAR_PLACE, FAR_PLACE);
        }
    }

    /** A product of factors x + c, seven at most, by its numbers at the powers of x. */
    private static final class Product {
        private final long[] numbers;
        private int degree;

        Product() {
            numbers = new long[MOST_MOMENTS + 1];
            numbers[0] = 1;
        }

        int degree() {
            return degree;
        }

        long number(int j) {
            return j < 0 || j > degree || j > MOST_MOMENTS ? 0 : numbers[j];
        }

        void begin() {
            numbers[0] = 1;
            degree = 0;
        }

        void times(int c) {
            if (degree >= MOST_MOMENTS) {
                return;
            }
            for (int j = degree + 1; j >= 0; j--) {
                numbers[j] = number(j - 1) + c * number(j);
            }
            degree++;
        }

        /** Becomes the product that is 0 at these places alone, each once. */
        void vanishAt(int places) {
            begin();
            for (int place = -FAR_PLACE; place <= FAR_PLACE; place++) {
                if ((places & bitOf(place)) != 0) {
                    times(-place);
                }
            }
        }

        long evaluate(int x) {
            long sum = 0;
            for (int j = degree; j >= 0; j--) {
                sum = sum * x + number(j);
            }
            return sum;
        }
    }

    /**
     * The determinants of the first lines of the table from s on, for each choice of as many of
     * its columns 0 to 3 (bit c of the choice for column c). The tables' own determinants are
     * among them, and, by Cramer's rule, the numbers of all polynomials P, each times the
     * determinant of its size.
     */
    private static final class Minors {
        private static final int CHOICES = 1 << MOST_SIZE;
        private final long[] minors;
        private int count;

        Minors() {
            minors = new long[CHOICES];
            minors[0] = 1;
        }

        /** Choices that reach beyond the row's end are filled too, but told nothing by. */
        void fill(Row row, int s) {
            count = row.size();
            minors[0] = 1;
            for (int choice = 1; choice < CHOICES; choice++) {
                minors[choice] = expand(row, s, choice);
            }
        }

        /** Along the last line: a number there, times the minor without line and column. */
        private long expand(Row row, int s, int choice) {
            int line = Integer.bitCount(choice) - 1;
            long sum = 0;
            for (int column = 0; column < MOST_SIZE; column++) {
                int bit = 1 << column;
                if ((choice & bit) != 0) {
                    long term = row.at(s + line + column) * minor(choice ^ bit);
                    boolean even = Integer.bitCount(choice >> (column + 1)) % 2 == 0;
                    sum += even ? term : -term;
                }
            }
            return sum;
        }

        private long minor(int choice) {
            return choice < 0 || choice >= CHOICES ? 0 : minors[choice];
        }

        long det(int n) {
            return isOutside(n, 0, MOST_SIZE) ? 0 : minor((1 << n) - 1);
        }

        boolean hasPolynomial(int n) {
            return n == 0 || (count >= 2 * n && det(n) != 0);
        }

        /** The number of P of n at x to the j, times the determinant of size n. */
        long coefficient(int n, int j) {
            if (isOutside(n, 0, MOST_DEGREE) || isOutside(j, 0, n)) {
                return 0;
            }
            long value = minor(((1 << (n + 1)) - 1) ^ (1 << j));
            return (n - j) % 2 == 0 ? value : -value;
        }

        /** P of n at a by b, times the determinant of size n and b to the n. */
        long evaluate(int n, int a, int b) {
            long sum = 0;
            long scale = 1;
            for (int j = n; j >= 0; j--) {
                sum = sum * a + coefficient(n, j) * scale;
                scale *= b;
            }
            return sum;
        }

        /** The mean of P of n times x to the up, times the determinant of size n. */
        long meanTimesPower(Row row, int n, int up) {
            long sum = 0;
            for (int j = 0; j <= n; j++) {
                sum += coefficient(n, j) * row.at(j + up);
            }
            return sum;
        }

        /**
         * The mean, over y, of P of n at x less P of n at y, by x less y, where x is a by b;
         * times the determinant of size n and b to the n less 1. Dividing P by (y less x), step
         * by step as when P is evaluated, gives the numbers at y to the n less 1, .., 0.
         */
        long quotientMean(Row row, int n, int a, int b) {
            long sum = 0;
            long quotient = 0;
            long scale = 1;
            for (int j = n; j >= 1; j--) {
                quotient = quotient * a + coefficient(n, j) * scale;
                scale *= b;
                sum += quotient * power(b, j - 1) * row.at(j - 1);
            }
            return sum;
        }

        /**
         * How many zeros of P of n are below a by b, all norms ahead being above 0: P of 0 to n
         * change their signs there as often as P of n has zeros above (zeros among them left
         * out).
         */
        int zerosBelow(int n, int a, int b) {
            int below = n;
            int last = 1;
            int sign = 1;
            for (int k = 1; k <= n; k++) {
                sign = signOf(evaluate(k, a, b));
                if (sign == -last) {
                    below--;
                    last = sign;
                }
            }
            return sign == 0 ? below - 1 : below;
        }
    }

    /** Rows to go back to; the oldest one is lost to a new one where there is no room. */
    private static final class States {
        private static final int WIDTH = MOST_MOMENTS + 1;
        private final int[] saved;
        private int oldest;
        private int depth;

        States() {
            saved = new int[MOST_STATES * WIDTH];
        }

        int depth() {
            return depth;
        }

        void push(Row row) {
            if (depth >= MOST_STATES) {
                oldest = (oldest + 1) % MOST_STATES;
                depth = MOST_STATES - 1;
            }
            row.save(saved, place(depth));
            depth++;
        }

        void pop(Row row) {
            if (depth <= 0) {
                return;
            }
            depth--;
            row.load(saved, place(depth));
        }

        private int place(int age) {
            return (oldest + age) % MOST_STATES * WIDTH;
        }
    }

    /** The bytes of the text. */
    private static final class Text {
        private final byte[] bytes;
        private int length;

        Text() {
            bytes = new byte[MOST_BYTES];
        }

        int length() {
            return length;
        }

        /** The byte at a place; -1, which can stand nowhere, where there is none. */
        int at(int place) {
            return place < 0 || place >= length || place >= MOST_BYTES ? -1 : bytes[place];
        }

        /** Tells whether there was room. */
        boolean append(int c) {
            if (length >= MOST_BYTES) {
                return false;
            }
            bytes[length] = (byte) c;
            length++;
            return true;
        }

        void empty() {
            length = 0;
        }
    }

    /** Takes a text apart into orders, and does them. */
    private static final class Reader {
        private static final int MOST_FIGURES = 3;
        private final int[] kinds;
        /** Where the numbers of each order begin; one more for the end of the last. */
        private final int[] starts;
        private final int[] numbers;
        private int orders;
        private int taken;
        /** The letter of the order that is open; 0 between orders. */
        private int kind;
        /** The number that is open: no figures and no minus, if there is none. */
        private boolean minus;
        private int figures;
        private int size;

        Reader() {
            kinds = new int[MOST_ORDERS];
            starts = new int[MOST_ORDERS + 1];
            numbers = new int[MOST_BYTES];
        }

        int orders() {
            return orders;
        }

        int number(int i) {
            return i < 0 || i >= taken || i >= MOST_BYTES ? 0 : numbers[i];
        }

        /** The place of the text's fault, or NOWHERE. */
        int scan(Text text) {
            orders = 0;
            taken = 0;
            kind = 0;
            forgetNumber();
            for (int place = 0; place < text.length(); place++) {
                if (!accept(text.at(place))) {
                    return place;
                }
            }
            return kind != 0 || orders == 0 ? text.length() : NOWHERE;
        }

        /** Takes the next byte, if it can stand there. */
        private boolean accept(int c) {
            if (c >= '0' && c <= '9') {
                return acceptFigure(c - '0');
            }
            if (minus && figures == 0) {
                return false;
            }
            if (c == ' ') {
                closeNumber();
                return true;
            }
            if (kind == 0) {
                return openOrder(c);
            }
            if (c == ';') {
                closeNumber();
                return closeOrder();
            }
            if (c == '-') {
                closeNumber();
                minus = true;
                return given() < mostNumbers(kind);
            }
            return false;
        }

        private boolean acceptFigure(int figure) {
            if (figures >= MOST_FIGURES || given() >= mostNumbers(kind)) {
                return false;
            }
            size = size * 10 + figure;
            figures++;
            return true;
        }

        private boolean openOrder(int c) {
            if (mostNumbers(c) < 0 || orders >= MOST_ORDERS) {
                return false;
            }
            kind = c;
            kinds[orders] = c;
            starts[orders] = taken;
            return true;
        }

        private boolean closeOrder() {
            if (given() < leastNumbers(kind) || orders >= MOST_ORDERS) {
                return false;
            }
            orders++;
            starts[orders] = taken;
            kind = 0;
            return true;
        }

        private void closeNumber() {
            if (figures > 0 && taken < MOST_BYTES) {
                numbers[taken] = minus ? -size : size;
                taken++;
            }
            forgetNumber();
        }

        private void forgetNumber() {
            minus = false;
            figures = 0;
            size = 0;
        }

        /** How many numbers of the open order are closed. */
        private int given() {
            return orders >= MOST_ORDERS ? 0 : taken - starts[orders];
        }

        /** How many numbers an order may have at most; -1 for what begins none. */
        private static int mostNumbers(int letter) {
            switch (letter) {
                case 'm':
                    return MOST_MOMENTS;
                case 'p':
                    return 2;
                case 'v':
                case 's':
                case 'w':
                case 'k':
                    return 1;
                case 'l':
                    return 0;
                default:
                    return -1;
            }
        }

        private static int leastNumbers(int letter) {
            return letter == 'm' ? 1 : mostNumbers(letter);
        }

        /** Does the orders one by one: the number of the first that is refused, or NOWHERE. */
        int perform(Row row) {
            for (int order = 0; order < orders; order++) {
                if (performOne(row, order) != DONE) {
                    return order;
                }
            }
            return NOWHERE;
        }

        private int performOne(Row row, int order) {
            if (isOutside(order, 0, MOST_ORDERS - 1)) {
                return BAD;
            }
            int from = starts[order];
            switch (kinds[order]) {
                case 'm':
                    return row.replace(this, from, starts[order + 1] - from);
                case 'p':
                    return row.addPlace(number(from), number(from + 1));
                case 'v':
                    return row.shift(number(from));
                case 's':
                    return row.scale(number(from));
                case 'w':
                    return row.reweigh(number(from));
                case 'k':
                    return row.append(number(from));
                default:
                    return row.drop();
            }
        }
    }
}
