/** What several tests need: houses with a table, positions by their texts, tapes, and numbers that are wrong. */
final class Houses {
    static final int LEAST = Integer.MIN_VALUE;
    static final int MOST = Integer.MAX_VALUE;
    static final int[] NO_TURNS = {-1, 2, LEAST, MOST};
    static final int[] NO_MATERIALS = {-1, 3, LEAST, MOST};
    private static final int FED_BYTES = 20;

    private Houses() { }

    static EndgameHouse on(int files) {
        EndgameHouse house = new EndgameHouse();
        house.board(files);
        return house;
    }

    static EndgameHouse of(int files, int material) {
        EndgameHouse house = on(files);
        house.make(material);
        return house;
    }

    static String lastFile(int files) {
        return "" + (char) ('a' + files - 1);
    }

    /** Material, white king, black king, man and turn of a text such as "Kc3 Qd4 ka1 b", legal or not. */
    static int[] at(int files, String text) {
        return new int[] {"QRP".indexOf(text.charAt(4)), square(files, text, 1), square(files, text, 9),
            square(files, text, 5), "wb".indexOf(text.charAt(12))};
    }

    private static int square(int files, String text, int start) {
        return files * (text.charAt(start + 1) - '1') + text.charAt(start) - 'a';
    }

    static boolean legal(EndgameHouse house, int[] at) {
        return house.isLegal(at[0], at[1], at[2], at[3], at[4]);
    }

    static int moves(EndgameHouse house, int[] at) {
        return house.moves(at[0], at[1], at[2], at[3], at[4]);
    }

    static int distance(EndgameHouse house, int[] at) {
        return house.distance(at[0], at[1], at[2], at[3], at[4]);
    }

    static int best(EndgameHouse house, int[] at) {
        return house.best(at[0], at[1], at[2], at[3], at[4]);
    }

    static int line(EndgameHouse house, int[] at) {
        return house.line(at[0], at[1], at[2], at[3], at[4]);
    }

    static int number(EndgameHouse house, int[] at) {
        return house.number(at[0], at[1], at[2], at[3], at[4]);
    }

    static int show(EndgameHouse house, int[] at) {
        return house.show(at[0], at[1], at[2], at[3], at[4]);
    }

    /** The document's KEY and, 2 * S * S * S times, the MATERIAL. */
    static int keyWithMaterial(int files, int[] at) {
        int s = files * files;
        return 2 * ((at[1] * s + at[2]) * s + at[3]) + at[4] + 2 * s * s * s * at[0];
    }

    /** A text of at most twenty bytes comes behind the tape, with blanks behind it. */
    static int fed(EndgameHouse house, String text) {
        int[] fours = new int[5];
        for (int i = 0; i < FED_BYTES; i++) {
            fours[i / 4] = fours[i / 4] << 8 | (i < text.length() ? text.charAt(i) : ' ');
        }
        return house.feed(fours[0], fours[1], fours[2], fours[3], fours[4]);
    }

    static int readText(EndgameHouse house, String text) {
        fed(house, text);
        return house.read(text.length());
    }

    static String outOf(EndgameHouse house) {
        StringBuilder text = new StringBuilder();
        for (int i = 0; house.out(i) != -1 && i < 100; i++) {
            text.append((char) house.out(i));
        }
        return text.toString();
    }
}
