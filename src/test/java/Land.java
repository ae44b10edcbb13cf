/** Objects of DroverTracks for the tests, and what can be read of them. */
final class Land {
    private Land() {
    }

    /** Farms with these tolls, each alone. */
    static DroverTracks farms(int... tolls) {
        DroverTracks x = new DroverTracks();
        for (int toll : tolls) {
            x.farm(toll);
        }
        return x;
    }

    /** The tree 0(1(2 3) 4), with the tolls 10, 20, 30, 5 and 7, and farm 5 with the toll 50 alone. */
    static DroverTracks tree() {
        DroverTracks x = farms(10, 20, 30, 5, 7, 50);
        x.lay(1, 0);
        x.lay(2, 1);
        x.lay(3, 1);
        x.lay(4, 0);
        return x;
    }

    /** A tree that is one row of farms, 0 to count - 1, with the root 0, and the tolls 1, 2, 3, .. */
    static DroverTracks row(int count) {
        DroverTracks x = new DroverTracks();
        for (int farm = 0; farm < count; farm++) {
            x.farm(farm + 1);
            if (farm > 0) {
                x.lay(farm, farm - 1);
            }
        }
        return x;
    }

    /** A tree that is one row of farms, 0 to count - 1, with the root 0, and one toll for all. */
    static DroverTracks rowOf(int count, int toll) {
        DroverTracks x = new DroverTracks();
        for (int farm = 0; farm < count; farm++) {
            x.farm(toll);
            if (farm > 0) {
                x.lay(farm, farm - 1);
            }
        }
        return x;
    }

    /** Farms with the toll 1, each alone. */
    static DroverTracks alone(int count) {
        DroverTracks x = new DroverTracks();
        for (int farm = 0; farm < count; farm++) {
            x.farm(1);
        }
        return x;
    }

    static void text(DroverTracks x, String text) {
        for (int index = 0; index < text.length(); index++) {
            x.append(text.charAt(index));
        }
    }

    static int commands(DroverTracks x, String text) {
        text(x, text);
        return x.commands();
    }

    static String line(DroverTracks x, int length) {
        StringBuilder line = new StringBuilder();
        for (int index = 0; index < length; index++) {
            line.append(x.character(index));
        }
        return line.toString();
    }

    static String tree(DroverTracks x, int farm) {
        return line(x, x.tree(farm));
    }

    static String way(DroverTracks x, int one, int other) {
        return line(x, x.way(one, other));
    }

    /** All that can be undone, by few calls, so that it can be read often in the 512 calls of an object. */
    static String state(DroverTracks x) {
        StringBuilder state = new StringBuilder();
        for (int farm = 0; farm < x.account(0); farm++) {
            for (int what = 0; what <= 2; what++) {
                state.append(x.farmOf(farm, what)).append(' ');
            }
        }
        for (int drover = 0; drover < 3; drover++) {
            state.append("at ").append(x.drover(drover)).append(' ');
        }
        for (int what = 4; what <= 7; what++) {
            state.append(x.account(what)).append(' ');
        }
        return state.toString();
    }

    /** The state, and what undo leaves, but for the reason, which a refused call changes. */
    static String whole(DroverTracks x) {
        return state(x) + x.account(8) + ' ' + x.account(9) + ' ' + x.faultPosition() + ' ' + written(x);
    }

    /** The line as it stands, also if its length is not known. */
    static String written(DroverTracks x) {
        StringBuilder line = new StringBuilder();
        try {
            while (line.length() < 512) {
                line.append(x.character(line.length()));
            }
        } catch (IndexOutOfBoundsException e) {
            return line.toString();
        }
        return line + " without an end";
    }

    /** All that can be undone, as a text; it writes the line. */
    static String all(DroverTracks x) {
        StringBuilder all = new StringBuilder();
        for (int farm = 0; farm < x.account(0); farm++) {
            for (int what = 0; what <= 6; what++) {
                all.append(x.farmOf(farm, what)).append(' ');
            }
            all.append(tree(x, farm)).append('\n');
        }
        for (int drover = 0; drover < 3; drover++) {
            all.append(x.drover(drover)).append(' ');
        }
        for (int what = 0; what <= 7; what++) {
            all.append(x.account(what)).append(' ');
        }
        return all.toString();
    }
}
