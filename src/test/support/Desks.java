/** Desks to refuse calls on: nothing there yet, some things, all that there may be. */
enum Desks {
    NEW {
        @Override
        MotionDesk make() {
            return new MotionDesk();
        }
    },

    SOME {
        @Override
        MotionDesk make() {
            MotionDesk desk = Check.told("rabc;rbca;rcab;g((ab)c);");
            desk.keep(1);
            desk.ranks(0, 1);
            desk.swaps(0);
            desk.sees(0, 1);
            Check.type(desk, "rcba;gb;");
            return desk;
        }
    },

    /** Nine members, ten that may be undone, six seen, both images, 120 letters. */
    FULL {
        @Override
        MotionDesk make() {
            MotionDesk desk = Check.told("rabc;".repeat(9) + "g((ab)c);");
            desk.keep(0);
            for (int i = 0; i < 10; i++) {
                desk.ranks(0, i % 2);
            }
            desk.swaps(1);
            desk.keep(1);
            for (int i = 0; i < 6; i++) {
                desk.sees(i % 2, 0);
            }
            Check.type(desk, "rcba;gb;" + " ".repeat(112));
            return desk;
        }
    },

    /** A leaf alone: no vote, two motions, one member. */
    LEAF {
        @Override
        MotionDesk make() {
            MotionDesk desk = Check.told("n2;rba;gb;");
            desk.ranks(0, 0);
            return desk;
        }
    };

    abstract MotionDesk make();
}
