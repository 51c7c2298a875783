import java.util.Random;

/** Texts of drawings: small ones, crowded ones, wrong ones. */
final class Texts {
    static final String SQUARE = "east 1;north 1;west 1;south 1;";
    /** Sixty LINES, from 0, 0 to 0, 5. */
    static final String ROWS = "times 5(east 11;west 11;north 1;);";
    /** A LINE from HOLE 65 by each WAY, numbered as these. */
    static final String STAR = "at 5 5;east 1;at 5 5;northeast 1;at 5 5;north 1;at 5 5;northwest 1;at 5 5;west 1;"
        + "at 5 5;southwest 1;at 5 5;south 1;at 5 5;southeast 1;";

    private static final String[] SOUP = {"at", "ink", "knot", "times", "turn", "mirror", "east", "northeast", "north",
        "northwest", "west", "southwest", "south", "southeast", ";", ";", "(", ")", "1", "3", "12", "007", "0", "13",
        "1000", "0001", "eas", "norths", "at3", "A", "\t", "-", "\u00e4", "\n", "turn(", "turn(", "east 1;", "east 1;"};

    private Texts() {
    }

    static String some(Random random) {
        switch (random.nextInt(8)) {
            case 0: return soup(random);
            case 1: return spoilt(random, random.nextBoolean() ? nested(random) : small(random));
            case 2: return nested(random);
            case 3: return crowded(random);
            default: return small(random);
        }
    }

    /** A few LINES close together, or in one row. */
    static String small(Random random) {
        return random.nextBoolean() ? walk(random) : strewn(random);
    }

    private static String walk(Random random) {
        StringBuilder text = new StringBuilder("at 7 6;" + (random.nextInt(4) == 0 ? "knot 7 6;" : ""));
        for (int k = 2 + random.nextInt(6); k > 0; k--) {
            text.append(Model.WAYS.get(random.nextInt(8))).append(" 1;");
            text.append(random.nextInt(8) == 0 ? "at 7 6;" : "");
        }
        return text.toString();
    }

    private static String strewn(Random random) {
        StringBuilder text = new StringBuilder();
        int around = random.nextInt(8);
        for (int k = 1 + random.nextInt(6); k > 0; k--) {
            if (random.nextInt(3) == 0 || text.length() == 0) {
                text.append("at ").append(around + 1 + random.nextInt(2)).append(' ').append(around + 1 + random.nextInt(2)).append(';');
            }
            if (random.nextInt(5) == 0) {
                text.append("ink ").append(random.nextInt(2)).append("; ");
            }
            if (random.nextInt(6) == 0) {
                text.append("knot ").append(around + random.nextInt(4)).append(' ').append(around + random.nextInt(4)).append(";\n");
            }
            text.append(Model.WAYS.get(random.nextInt(8))).append(" 1;");
        }
        return text.toString();
    }

    static String nested(Random random) {
        StringBuilder text = new StringBuilder("at 5 5;");
        statements(random, text, 0);
        return text.length() > 700 ? text.substring(0, 700) : text.toString();
    }

    private static void statements(Random random, StringBuilder text, int depth) {
        for (int k = random.nextInt(4); k >= 0; k--) {
            int kind = random.nextInt(depth > 5 ? 6 : 9);
            if (kind == 0) {
                text.append("at ").append(random.nextInt(12)).append(' ').append(random.nextInt(12)).append(';');
            } else if (kind == 1) {
                text.append("ink").append(random.nextInt(4)).append(" ;");
            } else if (kind < 6) {
                text.append(Model.WAYS.get(random.nextInt(8))).append(' ').append(1 + random.nextInt(3)).append(';');
            } else {
                text.append(kind == 6 ? "times " + (1 + random.nextInt(random.nextInt(5) == 0 ? 12 : 3)) : kind == 7 ? "turn" : "mirror");
                text.append(random.nextBoolean() ? " (" : "(\n");
                statements(random, text, depth + 1);
                text.append(");");
            }
        }
    }

    /** Many LINES, and steps to and fro. */
    private static String crowded(Random random) {
        StringBuilder text = new StringBuilder();
        for (int k = 5 + random.nextInt(30); k > 0 && text.length() < 600; k--) {
            text.append("at ").append(random.nextInt(4)).append(' ').append(random.nextInt(4)).append(';');
            text.append("times ").append(1 + random.nextInt(12)).append("(east 1;west ").append(1).append(";);");
            text.append(Model.WAYS.get(random.nextInt(3))).append(' ').append(1 + random.nextInt(7)).append(';');
        }
        return text.toString();
    }

    private static String soup(Random random) {
        StringBuilder text = new StringBuilder();
        for (int k = random.nextInt(12); k > 0; k--) {
            text.append(SOUP[random.nextInt(SOUP.length)]);
            text.append(random.nextInt(3) == 0 ? "" : " ");
        }
        return text.toString();
    }

    /** One byte changed, put in or taken out. */
    private static String spoilt(Random random, String text) {
        int at = random.nextInt(text.length());
        String bit = SOUP[random.nextInt(SOUP.length)];
        switch (random.nextInt(3)) {
            case 0: return text.substring(0, at) + text.substring(at + 1);
            case 1: return text.substring(0, at) + bit + text.substring(at);
            default: return text.substring(0, at) + bit + text.substring(at + 1);
        }
    }
}
