/** Objects with a full past, all accounts above 0, two snapshots, an output and a text in the buffer. */
final class Used {
    private Used() {
    }

    /** The components 0-1-2, 3-4 and 5. */
    static TreeCodes forest() {
        TreeCodes x = Texts.of("vertices 6;path 0 1 2;edge 3 4;weight 1 5;weight 5 0;");
        x.keep(0);
        x.link(0, 2);
        x.link(4, 5);
        x.cut(5, 4);
        x.cut(0, 5);
        x.cut(0, 4);
        x.regraft(3, 4, 5);
        x.regraft(3, 4, 5);
        x.prune(7);
        x.restore(1);
        x.fromRank(700);
        x.nextTree();
        x.swap(0, 3);
        x.setWeight(2, 7);
        x.keep(2);
        x.cut(0, 1);
        x.restore(0);
        x.nextTree();
        x.undo();
        x.restore(0);
        x.writeWord(0);
        Texts.feed(x, "vertices 3;edge 0 2;");
        return x;
    }

    /** The path 0-1-2-3-4-5. */
    static TreeCodes tree() {
        TreeCodes x = forest();
        x.link(2, 3);
        x.link(4, 5);
        return x;
    }
}
