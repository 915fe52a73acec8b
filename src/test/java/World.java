/** Objects in known states, in which refused calls are made. Each is made by fewer than 130 calls. */
enum World {
    /** Just made: one station, no leg, nothing to undo, empty slots. */
    NEW(1, 0, -1, -1, -1),

    /** A cave was read after changes and keeping, all of which must be gone. */
    READ(3, 3, -1, -1, -1),

    /** Stations 0 to 2 are connected, 3 and 4 are not; there is something of everything. */
    RICH(5, 5, 3, 2, 1),

    /** Eight legs, 70 characters, 14 changes, 6 observations, both slots. */
    FULL(6, 8, 5, 5, 7);

    /** How many stations and legs there are: the first numbers that do not exist. */
    final int stations, legs;

    /** A station that is not connected, such a leg, and a collapsed leg; or -1. */
    final int farStation, farLeg, fallenLeg;

    World(int stations, int legs, int farStation, int farLeg, int fallenLeg) {
        this.stations = stations;
        this.legs = legs;
        this.farStation = farStation;
        this.farLeg = farLeg;
        this.fallenLeg = fallenLeg;
    }

    CaveLegs make() {
        CaveLegs x = new CaveLegs();
        switch (this) {
            case NEW -> { }
            case READ -> read(x);
            case RICH -> rich(x);
            case FULL -> full(x);
        }
        return x;
    }

    private static void read(CaveLegs x) {
        rich(x);
        x.wipe();
        Check.write(x, "C3l0110325l1210323l1210322");
        x.cave();
    }

    private static void rich(CaveLegs x) {
        Check.write(x, "C5l0110325l1220023l0233942l3407317");
        x.cave();
        for (int k = 0; k < 7; k++) {
            x.read(k % 4, k % 2, 3 + k);
        }
        x.keep(0);
        x.fall(2);
        x.keep(1);
        x.fall(2);
        x.measure(2, 1, 41, 8, 1, 9);
        for (int k = 0; k < 4; k++) {
            x.read(4 - k, 0, 50 + k);
        }
        x.take(0);
        x.measure(1, 0, 15, 5, 3, 4);
        x.fall(1);
        x.see(0, 0, 9, 0);
        x.see(1, 2, 3, 0);
        x.see(3, 4, 7, 1);
        x.seed(123456789);
        x.wipe();
        Check.write(x, "C3l01");
    }

    private static void full(CaveLegs x) {
        Check.write(x, "C6l0110325l1220023l2333942l3007319l0244b01l1399828l4510326l2015321");
        x.cave();
        Check.write(x, "l011");
        for (int k = 0; k < 12; k++) {
            x.read(k % 8, 0, 20 + k);
        }
        x.keep(0);
        x.take(2);
        x.keep(1);
        x.measure(2, 3, 66, 4, 1, 6);
        x.read(0, 1, 5);
        x.fall(7);
        for (int k = 0; k < 4; k++) {
            x.see(k, k, 10, 1);
        }
        x.see(0, 1, 5, 1);
        x.see(4, 5, 6, 1);
        x.seed(-987654321);
    }
}
