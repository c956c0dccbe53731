/** Objects in which there is something of everything, always made alike. */
final class Made {
    private Made() {
    }

    /** Three CASES, two OWNERS, two HALLS, a TEXT not read yet, a FILM, TAPES, a TRACE, an IMAGE of less. */
    static CaseElsewhere some() {
        CaseElsewhere x = new CaseElsewhere();
        x.leads(0, 1, 4);
        x.leads(3, 1, 1);
        x.bag(0, 3, 0, 5, 123);
        x.owner(123, 0);
        Due.hall(x, "read 1 b=0;room 1");
        x.film(0);
        x.image();
        x.leads(5, 0, 2);
        x.bag(4, 2, 2, 6, 124);
        x.bag(6, 1, 7, 7, 999);
        x.set(0, 1, 4);
        x.set(1, 1, 2);
        x.set(2, 1, 3);
        x.owner(129, 3);
        Due.hall(x, "blur 2 b=3;slow 3 t=4;room 2");
        x.ride(0, true);
        x.ride(1, false);
        x.film(-1);
        x.film(4);
        x.film(5);
        x.film(5);
        Due.feed(x, "slow 2 b<9");
        tapes(x);
        x.act(2, 2, 5);
        return x;
    }

    /** TAPES 0 .. 4 of sorts 0 .. 4 with three items each; the last TAPE holds nothing. */
    private static void tapes(CaseElsewhere x) {
        for (int sort = 0; sort <= 4; sort++) {
            x.tape(sort, sort, 3);
            x.item(sort, 0, 4);
            x.item(sort, 1, 3);
            x.item(sort, 2, 7);
        }
    }

    /** As many CASES, OWNERS, HALLS, rows of the FILM and bytes of THE TEXT as there may be. */
    static CaseElsewhere full() {
        CaseElsewhere x = new CaseElsewhere();
        x.bag(3, 9, 0, 6, 999);
        x.image();
        for (int i = 1; i < 6; i++) {
            x.bag(i, i, i + 1, 7, 111 * i);
        }
        for (int i = 0; i < 6; i++) {
            x.owner(110 * i, i);
        }
        for (int i = 0; i < 5; i++) {
            Due.hall(x, "room 1");
        }
        Due.hall(x, "slow 2 b<5");
        for (int i = 0; i < 12; i++) {
            x.film(Math.min(i, 6));
        }
        Due.feed(x, hundred());
        tapes(x);
        x.act(4, 2, 5);
        return x;
    }

    /** A good text of as many bytes as there may be. */
    static String hundred() {
        StringBuilder text = new StringBuilder("read 12 b<12");
        while (text.length() < 100) {
            text.append("&b<8");
        }
        return text.toString();
    }
}
