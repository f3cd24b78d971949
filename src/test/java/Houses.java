/** Houses in which the tests ask many calls. */
final class Houses {
    private Houses() {
    }

    /** Four panels, two of which lie, one act is left, clues, both images, a text that could be told. */
    static BedHouse house() {
        BedHouse x = Due.told("wall 0;glass 2;curtain 5;rotten 7;"
            + "beam 7 2;beam 0 3;rain 2 3;sun 1 7;view 2;noise 0;down 2;hands 2;");
        x.keep(1);
        x.clue(3, 1);
        x.clue(5, 0);
        x.mark(4, 1);
        x.down(3);
        x.night();
        x.keep(0);
        x.down(2);
        Due.write(x, "wall 4;");
        return x;
    }

    /** No act is left, as many lie as may, THE TEXT and the clues are full, no image is kept, no beam may go. */
    static BedHouse spent() {
        BedHouse x = Due.told("wall 0;glass 2;curtain 5;rotten 7;beam 7 2;sun 0 8;rain 0 1;down 1;hands 1;");
        x.down(3);
        for (int i = 0; i < 8; i++) {
            x.clue(i, i == 0 || i == 5 ? 0 : 1);
        }
        Due.write(x, "sun 1 1;".repeat(25));
        return x;
    }

    /** Fewer panels than there may be, no act is left, one image is kept. */
    static BedHouse twoPanels() {
        BedHouse x = Due.told("rotten 3;wall 8;hands 1;beam 0 8;");
        x.keep(1);
        x.up(1, 6);
        x.clue(3, 1);
        Due.write(x, "glass 2;");
        return x;
    }
}
