/** Desks from which edges are looked at. */
final class States {
    /** How many calls make a busy desk, at most. */
    static final int BUSY_CALLS = 50;

    private States() {
    }

    /**
     * Day 10, with some of everything. Entries: 0 BLOCK till it is split on day 20; 1 and 2 SHORT, the first begins
     * the other; 3 FOREIGN till day 50; 4 BLOCK lengthened on day 8; 5 rest, 6 moved, 7 PARKED of block 0 (from day
     * 20 on, 7 till day 50); 8 BLOCK, 9 PARKED (till day 18) of block 4. Lines: 0 on block 0 (goes to 6), ported; 1
     * on block 0, dropped; 2 on block 8. Calls: 0 MORE, 1 WAITS, 2 over, 3 none. Three options.
     */
    static DialDesk busy() {
        DialDesk x = new DialDesk();
        x.block(0, 12, 1023, 4, 0);
        x.service(111, 6, 0);
        x.service(1112, 7, 0);
        x.foreign(100, 4, 6, 0);
        x.block(1, 130, 14, 5, 3);
        x.now(5);
        x.line(0, 1345);
        x.line(0, 1777);
        x.line(4, 1123);
        x.port(0, 33);
        x.split(0, 8, 140, 1, 20, 30);
        x.lengthen(4, 2, 8, 10);
        x.finish(3, 50);
        x.now(9);
        x.port(2, 44);
        x.now(10);
        x.drop(1);
        x.call(0);
        x.figure(0, 2);
        x.figure(0, 3);
        x.call(1);
        x.figure(1, 1);
        x.figure(1, 1);
        x.call(2);
        x.figure(2, 9);
        x.demand(0, 500, 10);
        x.demand(1, 290, 5);
        x.demand(15, 7, 0);
        x.mightCome(0, 150, 1023, 5, 15, 100);
        x.mightCome(1, 16, 7, 4, 12, 50);
        x.mightCome(1, 17, 1, 4, 10, 0);
        return x;
    }

    /** So many blocks of area 0 from day 0 on, 000x.. to 119x.., each with a set of two figures and 4 behind. */
    static DialDesk blocks(int count) {
        DialDesk x = new DialDesk();
        for (int e = 0; e < count; e++) {
            x.block(0, 1000 + e, 3, 7, 0);
        }
        return x;
    }
}
