/** Promises 15 to 19: rule, takenBy, costOf, oldest, greatestGap. */
public final class WhatIfTest {
    private static final Class<IndexOutOfBoundsException> INDEX = IndexOutOfBoundsException.class;
    private static final Class<IllegalArgumentException> ARGUMENT = IllegalArgumentException.class;

    public static void main(String[] args) {
        promises15To17EachRule();
        promises15To17ChangeNothing();
        promises15To17Exceptions();
        promise17Blur();
        promise18Oldest();
        promise19GreatestGap();
        Check.end();
    }

    private static void asks(TypeTrays trays, int sign, int size, int blur, long rule, long taken, long cost) {
        Check.due("rule " + sign + size + blur, rule, () -> trays.rule(sign, size, blur));
        Check.due("takenBy " + sign + size + blur, taken, () -> trays.takenBy(sign, size, blur));
        Check.due("costOf " + sign + size + blur, cost, () -> trays.costOf(sign, size, blur));
    }

    /** Signs 0 to 7 are cut 6 wide and 6 high. */
    private static TypeTrays madeWithGreatSigns() {
        TypeTrays trays = new TypeTrays();
        for (int sign = 0; sign < 8; sign++) {
            trays.cut(sign, 6, 6);
        }
        return trays;
    }

    private static void promises15To17EachRule() {
        TypeTrays trays = madeWithGreatSigns();
        asks(trays, 0, 3, 0, 2, 0, 324);
        trays.use(0, 3, 0);
        asks(trays, 0, 3, 0, 0, 0, 0);
        asks(trays, 1, 1, 0, 1, 0, 36);
        trays.use(1, 1, 0);
        asks(trays, 2, 3, 0, 4, 0, 324);
        trays.newLine();
        asks(trays, 2, 3, 0, 3, 2, 324);
        trays.use(1, 1, 0);
        for (int sign = 2; sign < 6; sign++) {
            asks(trays, sign, 3, 0, 4, 0, 324);
            trays.use(sign, 3, 0);
        }
        asks(trays, 6, 3, 2, -1, -1, -1);
        asks(trays, 5, 3, 0, 0, 0, 0);
        trays.newLine();
        asks(trays, 6, 3, 0, 3, 2, 324);
        asks(trays, 6, 3, 2, 4, 1, 484);
        trays.use(1, 1, 0);
        asks(trays, 6, 3, 0, 4, 1, 324);
    }

    private static void promises15To17ChangeNothing() {
        TypeTrays trays = madeWithGreatSigns();
        for (int sign = 0; sign < 5; sign++) {
            trays.use(sign, 3, 0);
        }
        trays.newLine();
        long before = trays.digest();
        asks(trays, 5, 3, 0, 3, 1, 324);
        asks(trays, 5, 3, 2, 4, 1, 484);
        asks(trays, 4, 3, 0, 0, 0, 0);
        trays.oldest();
        trays.greatestGap();
        Check.due("nothing is changed", before, trays::digest);
    }

    private static void promises15To17Exceptions() {
        TypeTrays trays = new TypeTrays();
        int[][] wrong = {{0, 0, 0}, {0, 4, 0}, {15, 1, -1}, {15, 1, 3}};
        for (int[] letter : wrong) {
            Check.thrown("rule", ARGUMENT, () -> trays.rule(letter[0], letter[1], letter[2]));
            Check.thrown("takenBy", ARGUMENT, () -> trays.takenBy(letter[0], letter[1], letter[2]));
            Check.thrown("costOf", ARGUMENT, () -> trays.costOf(letter[0], letter[1], letter[2]));
        }
        for (int sign : new int[] {-1, 16, Integer.MIN_VALUE, Integer.MAX_VALUE}) {
            Check.thrown("rule", INDEX, () -> trays.rule(sign, 0, 0));
            Check.thrown("takenBy", INDEX, () -> trays.takenBy(sign, 1, 3));
            Check.thrown("costOf", INDEX, () -> trays.costOf(sign, 1, 0));
        }
    }

    private static void promise17Blur() {
        TypeTrays trays = new TypeTrays();
        trays.cut(0, 1, 3);
        asks(trays, 0, 1, 1, 2, 0, 15);
        trays.use(0, 1, 0);
        asks(trays, 0, 1, 1, 2, 0, 7);
        asks(trays, 0, 1, 2, 2, 0, 17);
        asks(trays, 0, 2, 1, 2, 0, 32);
        Check.due("costOf asked first, after a hit", 0, () -> trays.costOf(0, 1, 0));
        Check.due("costOf asked next", 7, () -> trays.costOf(0, 1, 1));
        trays.use(0, 1, 1);
        trays.drop(0, 1, 0);
        asks(trays, 0, 1, 0, 1, 0, 3);
        asks(trays, 0, 1, 2, 2, 0, 35);
    }

    private static void promise18Oldest() {
        TypeTrays trays = madeWithGreatSigns();
        Check.due("no letter", -1, trays::oldest);
        trays.use(0, 3, 2);
        Check.due("one letter", 32, trays::oldest);
        trays.use(1, 3, 2);
        trays.use(15, 1, 1);
        trays.use(0, 3, 2);
        Check.due("the one in the street", 132, trays::oldest);
        trays.drop(1, 3, 2);
        Check.due("the next one", 1511, trays::oldest);
        trays.newLine();
        Check.due("also of an older line", 1511, trays::oldest);
    }

    private static void promise19GreatestGap() {
        TypeTrays trays = new TypeTrays();
        Check.due("no shelf", 0, trays::greatestGap);
        trays.cut(0, 6, 3);
        trays.use(0, 3, 0);
        Check.due("6 columns of 9", 54, trays::greatestGap);
        trays.cut(1, 2, 2);
        trays.use(1, 3, 0);
        Check.due("no gap", 0, trays::greatestGap);
        trays.cut(2, 5, 1);
        trays.use(2, 2, 0);
        Check.due("14 columns of 2", 28, trays::greatestGap);
        trays.drop(0, 3, 0);
        Check.due("18 columns of 9", 162, trays::greatestGap);
        trays.addTray();
        trays.cut(3, 6, 6);
        trays.use(3, 3, 0);
        Check.due("6 columns of 18 are less", 162, trays::greatestGap);
        trays.drop(3, 3, 0);
        Check.due("24 columns of 18", 432, trays::greatestGap);
    }
}
