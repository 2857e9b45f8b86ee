/**
 * All that calls can show of an object, as a text; status() apart, for a finding changes it. The looking
 * uses the object up: acts are undone, images restored, the tape is read, rows are dropped.
 */
record Visible(long status, String rest) {
    private static final int MOST_ACTS = 24, MOST_TRACED = 16, ROWS = 8, MOST_LOOKED_AT = 6;
    private static final String ONE_RESTART = "n0,0,0;r0,0;";

    static Visible of(Answers x) {
        long status = x.to(Call.STATUS);
        StringBuilder all = new StringBuilder();
        counted(x, all);
        traced(x, all);
        sheet(x, all);
        acts(x, all);
        images(x, all);
        all.append("\ntape ").append(x.to(Call.SHEET)).append(" fault ").append(x.to(Call.FAULT));
        rows(x, all);
        return new Visible(status, all.toString());
    }

    /** The first thing that is not as due. */
    String unlike(Visible due) {
        String[] here = rest.split("\n");
        String[] there = due.rest.split("\n");
        for (int i = 0; i < Math.min(here.length, there.length); i++) {
            if (!here[i].equals(there[i])) {
                return " stands [" + here[i] + "], due is [" + there[i] + "]";
            }
        }
        return " the status is " + status + ", due is " + due.status;
    }

    private static void counted(Answers x, StringBuilder all) {
        all.append("fault ").append(x.to(Call.FAULT)).append(" counts");
        for (int what = 0; what < 6; what++) {
            all.append(' ').append(x.to(Call.COUNT, what));
        }
    }

    private static void traced(Answers x, StringBuilder all) {
        all.append("\ntrace");
        for (int i = 0; i <= MOST_TRACED; i++) {
            long body = x.to(Call.TRACE, i);
            all.append(' ').append(body);
            if (body < 0) {
                break;
            }
        }
    }

    // The first sign that a paragraph counts by its own level tells the level's style.
    private static void sheet(Answers x, StringBuilder all) {
        all.append("\nsheet");
        long many = x.to(Call.COUNT, 1);
        for (int p = 0; p < many; p++) {
            all.append(' ').append(x.to(Call.KIND, p)).append(',').append(x.to(Call.PARAGRAPH, p, 0));
            all.append(',').append(x.to(Call.PARAGRAPH, p, 1)).append('=').append(x.to(Call.LABEL, p, 2, 0));
        }
    }

    private static void acts(Answers x, StringBuilder all) {
        all.append("\nundone");
        for (int n = 0; n <= MOST_ACTS; n++) {
            long left = x.to(Call.UNDO);
            all.append(' ').append(left);
            if (left < 0) {
                break;
            }
            all.append(':').append(x.to(Call.COUNT, 1)).append(':').append(x.to(Call.COUNT, 3));
        }
        sheet(x, all);
    }

    private static void images(Answers x, StringBuilder all) {
        for (int k = 0; k < 2; k++) {
            long restored = x.to(Call.RESTORE, k);
            all.append("\nimage ").append(restored);
            if (restored == 1) {
                sheet(x, all);
            }
        }
    }

    // An item of 0 to 20 is the one start by which a restart, the only paragraph, counts it.
    private static void rows(Answers x, StringBuilder all) {
        for (char letter : ONE_RESTART.toCharArray()) {
            x.to(Call.FEED, letter);
        }
        x.to(Call.SHEET);
        for (int row = 0; row < ROWS; row++) {
            all.append("\nrow");
            for (int i = 0; i < MOST_LOOKED_AT; i++) {
                long item = x.to(Call.WHO, 0, 2, row, i, 1);
                all.append(' ').append(item);
                if (item < 0) {
                    break;
                }
            }
            all.append(" lane ").append(x.to(Call.SET, row, 0, 70000)).append(" size ").append(x.to(Call.DROP, row));
        }
    }
}
