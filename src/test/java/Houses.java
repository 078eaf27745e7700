/** Houses that several tests begin with. */
final class Houses {
    /** The law of days of the busy house. */
    static final String DAYS = "tear 400;dirt 1;change 2;";

    private Houses() {
    }

    /**
     * A bit of everything. Things 0 dress (rack 1, slot 7), 1 coat, 2 uniform, 3 mask (in 6), 4 set, 5 trunk
     * (rack 0, slot 0), 6 trunk (in 5), 7 trunk (out), 8 dress (in 7), 9 coat (out, late); two actors; both
     * laws, two scenes, two wishes; an image, six acts to undo, a fault, seven bytes on the tape.
     */
    static CostumeStock busy() {
        CostumeStock x = pictured();
        x.hire(9, 1, 50);
        x.days(2);
        x.put(0, 1, 7);
        Check.tell(x, 0, "cost 1/0;");
        Check.feed(x, "mend 9;");
        return x;
    }

    /** The busy house when its image has just been taken. */
    static CostumeStock pictured() {
        CostumeStock x = new CostumeStock();
        x.state(77);
        x.rack(3);
        x.rack(8);
        x.actor();
        x.actor();
        int[] kinds = {0, 1, 2, 3, 4, 5, 5, 5, 0, 1};
        for (int thing = 0; thing < kinds.length; thing++) {
            x.thing(kinds[thing], 5);
            x.measure(false, thing, 0, 50 + thing);
        }
        x.measure(true, 0, 0, 52);
        x.measure(true, 1, 0, 54);
        x.measure(true, 1, 1, 60);
        x.set(1, 0, 2);
        x.set(1, 5, 1);
        x.set(0, 1, 3);
        x.set(2, 1, 10);
        x.set(4, 0, 500);
        Check.tell(x, 0, "cost by*2+out;mend 3+torn;");
        Check.tell(x, 1, DAYS);
        Check.tell(x, 2, "scene 4 wear 0 dress wear 1 coat;scene 9 wear 0 mask;");
        x.wish(0, 2, 3, 40);
        x.wish(0, 4, 1, 30);
        x.put(5, 0, 0);
        x.put(6, 15, 1);
        x.put(3, 16, 2);
        x.put(8, 17, 0);
        x.hire(7, 3, 100);
        x.image(true);
        return x;
    }

    /** The busy house with nothing to undo. */
    static CostumeStock calm() {
        CostumeStock x = busy();
        x.set(4, 0, x.look(4));
        return x;
    }

    /**
     * All places taken: sixteen things (the last a trunk, in rack 3), six actors, four racks, sixteen lines of
     * each law, six scenes with six wears, ten wishes, 120 lines of the book, 400 bytes on the tape.
     */
    static CostumeStock full() {
        CostumeStock x = new CostumeStock();
        for (int rack = 0; rack < 4; rack++) {
            x.rack(8);
        }
        for (int actor = 0; actor < 6; actor++) {
            x.actor();
            x.measure(true, actor, 0, 50 + actor);
        }
        for (int thing = 0; thing < 16; thing++) {
            x.thing(thing == 15 ? 5 : thing % 3, 20);
            x.measure(false, thing, 0, 45 + thing);
        }
        Check.tell(x, 0, "cost 1+by when by>9;".repeat(16));
        Check.tell(x, 1, "dirt 1 when worn>3;".repeat(16));
        StringBuilder scenes = new StringBuilder();
        for (int scene = 0; scene < 6; scene++) {
            scenes.append("scene 9 wear ").append(scene).append(" coat;");
        }
        Check.tell(x, 2, scenes.toString());
        for (int wish = 0; wish < 10; wish++) {
            x.wish(wish, wish, 2, 10);
        }
        x.put(15, 3, 7);
        x.image(true);
        for (int line = 1; line < 120; line++) {
            x.care(line % 16, false);
        }
        Check.feed(x, " ".repeat(400));
        return x;
    }

    /** Things of kinds with lets and measure 0 as made; actors with measure 0. */
    static CostumeStock stage(int lets, int[] kinds, int[] made, int... bodies) {
        CostumeStock x = new CostumeStock();
        for (int thing = 0; thing < kinds.length; thing++) {
            x.thing(kinds[thing], lets);
            x.measure(false, thing, 0, made[thing]);
        }
        for (int actor = 0; actor < bodies.length; actor++) {
            x.actor();
            x.measure(true, actor, 0, bodies[actor]);
        }
        return x;
    }

    /** One dress of measure 50 with lets 5, and one actor of measure 53. */
    static CostumeStock small() {
        CostumeStock x = new CostumeStock();
        x.rack(2);
        x.thing(0, 5);
        x.actor();
        x.measure(false, 0, 0, 50);
        x.measure(true, 0, 0, 53);
        return x;
    }
}
