/** Objects that tests begin with. */
final class Scenes {
    private Scenes() {
    }

    static NymphRota bare() {
        return new NymphRota();
    }

    /** BELL 2 of 8; girl, marble, novice, dreamer, matron; something of all that there can be. */
    static NymphRota rich() {
        NymphRota x = untaped();
        Check.feed(x, "figure smoke;");
        return x;
    }

    /** As rich, with nothing on THE TAPE. */
    static NymphRota untaped() {
        NymphRota x = new NymphRota();
        x.figure(2, 11, 4, 1);
        x.report(1, 0, 10, 40);
        x.ends(9);
        x.seed(5);
        x.niche(5, 0, 1);
        Check.rules(x, "girl keep;");
        x.bell();
        x.keep();
        x.figure(1, 10, 3, 0);
        x.figure(4, 5, 2, 2);
        x.figure(5, 30, 9, 0);
        x.figure(3, 44, 5, 3);
        x.niche(0, 0, 2);
        x.niche(1, 0, 1);
        x.niche(4, 1, 6);
        x.weather(2, 14);
        x.weather(3, 7);
        x.ends(8);
        Check.rules(x, "marble if tired > 13 smoke; girl if not tired < 30 keep;");
        x.report(2, 1, 1, 6);
        x.bell();
        x.seed(-77);
        x.prove(3);
        x.alterRow(2, 1, 7);
        x.sheet(0, 0, 3);
        x.write(0, 1, 2);
        x.write(0, 2, 99);
        x.sheet(1, 2, 2);
        x.write(1, 0, 300);
        x.sheet(2, 4, 1);
        x.write(2, 0, 1);
        x.shelf(0, 0, 1);
        x.shelf(1, 1, 1);
        x.shelf(2, 0, 4);
        x.act(0, 3, 7);
        return x;
    }

    /** As rich, with a sixth FIGURE. */
    static NymphRota six() {
        NymphRota x = rich();
        x.figure(1, 0, 0, 5);
        return x;
    }

    /** As rich, but OVER. */
    static NymphRota over() {
        NymphRota x = rich();
        x.ends(2);
        return x;
    }

    /** As rich, with six REPORTS. */
    static NymphRota reported() {
        NymphRota x = rich();
        for (int r = 2; r < 6; r++) {
            x.report(r, 0, 0, 99);
        }
        return x;
    }

    /** As rich, with bytes on THE TAPE. */
    static NymphRota taped(int bytes) {
        NymphRota x = rich();
        for (int i = 0; i < 30 && x.many(5) < bytes; i++) {
            x.feed(0x2020202020202020L, Math.min(8, bytes - x.many(5)));
        }
        return x;
    }

    /** One FIGURE in NICHE 0. */
    static NymphRota one(int kind, int tired, int grace) {
        NymphRota x = new NymphRota();
        x.figure(kind, tired, grace, 0);
        return x;
    }

    /** One FIGURE that THE RULES tell to do so. */
    static NymphRota told(String will, int kind, int tired, int grace) {
        NymphRota x = one(kind, tired, grace);
        Check.rules(x, "figure " + will + ";");
        return x;
    }

    /** One of each KIND, 1 to 5, all alike, in NICHE 0; they keep. */
    static NymphRota kinds(int tired, int grace) {
        NymphRota x = new NymphRota();
        for (int kind = 1; kind <= 5; kind++) {
            x.figure(kind, tired, grace, 0);
        }
        Check.rules(x, "figure keep;");
        return x;
    }

    /** Lets so many BELLS go by. */
    static NymphRota after(NymphRota x, int bells) {
        for (int i = 0; i < bells; i++) {
            x.bell();
        }
        return x;
    }

    /** A BELL goes by behind an ACT; SHEET 3 is used. */
    static int go(NymphRota x, int act) {
        Check.acts(x, 3, act);
        return x.goAll(3, 0, 1);
    }
}
