/** Each sentence of the document that names a boundary case, with a test of its own. */
public final class BoundaryTest {
    private BoundaryTest() {
    }

    public static void main(String[] args) {
        new HouseholdBoundaries().all();
        new OvenBoundaries().all();
        new LoafBoundaries().all();
        new ValueBoundaries().all();
        new WhatIfBoundaries().all();
        new TextBoundaries().all();
        new UndoBoundaries().all();
        Boundaries.end();
    }
}
