/** Edges of SLIPS and their prices, of DISTANCE and THE WAY: promises 8 to 12. */
final class SlipsEdges {
    private static final int MIN = Integer.MIN_VALUE, MAX = Integer.MAX_VALUE;
    private static final int DEAREST = 9999;
    private final Checks checks;

    SlipsEdges(Checks checks) {
        this.checks = checks;
    }

    void all() {
        placesAreFromZero();
        sameAndSwapNeedOneInBoth();
        leftOutNeedsOneInMeant();
        putInNeedsOneInTyped();
        turnedNeedsTwoInBoth();
        doubledNeedsTwoInTyped();
        halvedNeedsTwoInMeant();
        aSoundNeedsBothRows();
        soundsAreTwentyAtMost();
        pricesAtFirst();
        pricesAtTheirEdges();
        pricesByLettersAtTheirEdges();
        allOfMeantAllOfTyped();
        theLeastSum();
        theLeastKindFirst();
        theLeastSoundFirst();
        theSecondSlipThen();
        priceOfKinds();
        priceByTwoLetters();
        priceByOneLetter();
        priceByLettersGoes();
        priceOfSplitsAndJoins();
        priceIsBad();
        soundTakesOneToThree();
        soundPriceIsBad();
        soundIsFull();
        modelTellsWhatItWas();
        modelIsBad();
        distanceOfRows();
        distanceIsBad();
        wayAheadOfAny();
        wayOfOneToTwentyFour();
        wayTellsOfSlips();
        wayTellsNone();
        wayIsBad();
        wayOfThen();
    }

    /** All KINDS at the dearest price but one. */
    private static WordMender cheap(int kind, int v) {
        WordMender x = new WordMender();
        for (int k = 1; k <= 6; k++) x.price(k, -1, -1, k == kind ? v : DEAREST);
        return x;
    }

    private void due(WordMender x, String rows, int distance, String way) {
        checks.due(rows, Checks.distance(x, rows), distance);
        checks.same("the way of " + rows, Checks.way(x), way);
    }

    private void slip(WordMender x, int i, int meant, int typed) {
        checks.due("slip " + i + " in MEANT", x.way(i, 2), meant);
        checks.due("slip " + i + " in TYPED", x.way(i, 3), typed);
    }

    private void placesAreFromZero() {
        checks.sentence("==== 1", "each at the places behind those of the slips before (i in MEANT, j in TYPED, from 0)");
        WordMender x = new WordMender();
        due(x, "a=a", 0, "0");
        slip(x, 0, 0, 0);
        due(x, "abcdefghijkl=abcdefghijk", 100, "000000000002");
        slip(x, 11, 11, 11);
        due(x, "abcdefghijk=abcdefghijkl", 100, "000000000003");
        slip(x, 11, 11, 11);
        due(x, "abcdefghijkl=a", 1100, "022222222222");
        slip(x, 1, 1, 1);
        slip(x, 11, 11, 1);
        due(x, "a=abcdefghijkl", 1100, "033333333333");
        slip(x, 1, 1, 1);
        slip(x, 11, 1, 11);
        Checks.sound(x, "abc=xyz", 1);
        due(x, "qabcqabc=qxyzqxyz", 2, "0(0)0(0)");
        slip(x, 1, 1, 1);
        slip(x, 2, 4, 4);
        slip(x, 3, 5, 5);
    }

    private void sameAndSwapNeedOneInBoth() {
        checks.sentence("==== 1", "0 SAME: the same LETTER in both. 1 SWAP: a LETTER a in MEANT, another one b in TYPED.");
        WordMender x = cheap(1, 1);
        due(x, "a=a", 0, "0");
        due(x, "z=z", 0, "0");
        due(x, "a=z", 1, "1");
        due(x, "ab=a", DEAREST, "02");
        due(x, "a=ab", DEAREST, "03");
        due(x, "ab=c", 1 + DEAREST, "12");
        due(x, "a=bc", 1 + DEAREST, "13");
        due(x, "abcdefghijkl=bcdefghijkla", 12, "111111111111");
    }

    private void leftOutNeedsOneInMeant() {
        checks.sentence("==== 1", "2 LEFT OUT: a LETTER a in MEANT, none in TYPED.");
        WordMender x = cheap(2, 1);
        due(x, "ab=a", 1, "02");
        due(x, "ab=b", 1, "20");
        due(x, "abc=b", 2, "202");
        due(x, "a=ab", DEAREST, "03");
        due(x, "abcdefghijkl=l", 11, "222222222220");
        due(x, "abcdefghijkl=a", 11, "022222222222");
    }

    private void putInNeedsOneInTyped() {
        checks.sentence("==== 1", "3 PUT IN: a LETTER a in TYPED, none in MEANT.");
        WordMender x = cheap(3, 1);
        due(x, "a=ab", 1, "03");
        due(x, "b=ab", 1, "30");
        due(x, "b=abc", 2, "303");
        due(x, "ab=a", DEAREST, "02");
        due(x, "l=abcdefghijkl", 11, "333333333330");
        due(x, "a=abcdefghijkl", 11, "033333333333");
    }

    private void turnedNeedsTwoInBoth() {
        checks.sentence("==== 1", "4 TURNED: two LETTERS a, b (unlike) in MEANT, b, a in TYPED.");
        WordMender x = cheap(4, 1);
        due(x, "ab=ba", 1, "4");
        due(x, "ab=ab", 0, "00");
        due(x, "aa=aa", 0, "00");
        due(x, "ab=b", DEAREST, "20");
        due(x, "a=ba", DEAREST, "30");
        due(x, "ab=bc", 2 * DEAREST, "11");
        due(x, "abcdefghijkl=abcdefghijlk", 1, "00000000004");
        due(x, "abcdefghijkl=badcfehgjilk", 6, "444444");
        due(x, "abcdefghijkl=bacdefghijk", 1 + DEAREST, "40000000002");
    }

    private void doubledNeedsTwoInTyped() {
        checks.sentence("==== 1", "5 DOUBLED: a in MEANT, a, a in TYPED.");
        WordMender x = cheap(5, 1);
        due(x, "a=aa", 1, "5");
        due(x, "a=a", 0, "0");
        due(x, "a=ab", DEAREST, "03");
        due(x, "b=aa", 2 * DEAREST, "13");
        due(x, "a=aaa", 1 + DEAREST, "35");
        due(x, "ba=baa", 1, "05");
        due(x, "abcdefghijk=abcdefghijkk", 1, "00000000005");
        due(x, "abcdef=aabbccddeeff", 6, "555555");
        due(x, "aa=a", DEAREST, "02");
    }

    private void halvedNeedsTwoInMeant() {
        checks.sentence("==== 1", "6 HALVED: a, a in MEANT, a in TYPED.");
        WordMender x = cheap(6, 1);
        due(x, "aa=a", 1, "6");
        due(x, "a=a", 0, "0");
        due(x, "ab=a", DEAREST, "02");
        due(x, "aa=b", 2 * DEAREST, "12");
        due(x, "aaa=a", 1 + DEAREST, "26");
        due(x, "baa=ba", 1, "06");
        due(x, "abcdefghijkk=abcdefghijk", 1, "00000000006");
        due(x, "aabbccddeeff=abcdef", 6, "666666");
        due(x, "a=aa", DEAREST, "03");
    }

    private void aSoundNeedsBothRows() {
        checks.sentence("==== 1", "7 SOUND k: the k-th SOUND's first row in MEANT, its second one in TYPED.");
        WordMender x = cheap(1, DEAREST);
        Checks.sound(x, "abc=x", 1);
        Checks.sound(x, "y=def", 2);
        due(x, "abc=x", 1, "(0)");
        due(x, "ab=x", 2 * DEAREST, "12");
        due(x, "abd=x", 3 * DEAREST, "122");
        due(x, "x=abc", 3 * DEAREST, "133");
        due(x, "abc=y", 3 * DEAREST, "122");
        due(x, "qqqqqqqqqabc=qqqqqqqqqx", 1, "000000000(0)");
        due(x, "y=def", 2, "(1)");
        due(x, "y=de", 2 * DEAREST, "13");
        due(x, "y=deg", 3 * DEAREST, "133");
        due(x, "qqqqqqqqqy=qqqqqqqqqdef", 2, "000000000(1)");
        due(x, "abcy=xdef", 3, "(0)(1)");
        checks.due("no kind has a sound's number", x.way(0, 4), 0);
        checks.due("the second one's", x.way(1, 4), 1);
    }

    private void soundsAreTwentyAtMost() {
        checks.sentence("==== 1", "SOUNDS (20 at most, numbered as they come) have each a first and a second row of 1 to 3 LETTERS and a price.");
        WordMender x = cheap(1, DEAREST);
        String[] firsts = {"a", "bb", "ccc"};
        String[] seconds = {"x", "yy", "zzz"};
        for (int k = 0; k < 20; k++) {
            String letter = "" + (char) ('a' + k);
            String rows = firsts[k % 3].replaceAll(".", letter) + "=" + seconds[k / 3 % 3];
            checks.due(rows, Checks.sound(x, rows, k == 19 ? DEAREST : k + 1), k);
        }
        checks.due("the 21st", Checks.sound(x, "u=x", 1), WordMender.FULL);
        due(x, "a=x", 1, "(0)");
        due(x, "bb=x", 2, "(1)");
        due(x, "ccc=x", 3, "(2)");
        due(x, "d=yy", 4, "(3)");
        due(x, "iii=zzz", 9, "(8)");
        due(x, "s=x", 19, "(18)");
        due(x, "tt=xz", 2 * DEAREST, "11");
        due(x, "tt=x", DEAREST, "(19)");
        due(x, "u=x", DEAREST, "1");
    }

    private void pricesAtFirst() {
        checks.sentence("==== 1", "SAME 0; of KINDS 1 to 6 a price (1 .. 9999) of the KIND, 100 at first");
        due(new WordMender(), "a=a", 0, "0");
        due(new WordMender(), "a=b", 100, "1");
        due(new WordMender(), "ab=a", 100, "02");
        due(new WordMender(), "a=ab", 100, "03");
        due(new WordMender(), "ab=ba", 100, "4");
        for (int kind = 1; kind <= 6; kind++) {
            checks.due("kind " + kind, new WordMender().price(kind, -1, -1, DEAREST), 100);
        }
    }

    private void pricesAtTheirEdges() {
        checks.sentence("==== 1", "of KINDS 1 to 6 a price (1 .. 9999) of the KIND");
        String[] rows = {"", "a=b", "ab=b", "b=ab", "ab=ba", "a=aa", "aa=a"};
        for (int kind = 1; kind <= 6; kind++) {
            WordMender x = cheap(kind, 1);
            checks.due("the least of kind " + kind, Checks.distance(x, rows[kind]), 1);
            checks.due("its slip", x.way(kind == 2 || kind == 3 ? 0 : x.way(-1, 0) - 1, 0), kind);
            checks.due("it was", x.price(kind, -1, -1, DEAREST), 1);
            checks.due("the greatest", x.price(kind, -1, -1, DEAREST), DEAREST);
            checks.due("the distance then", Checks.distance(x, rows[kind]), DEAREST);
        }
    }

    private void pricesByLettersAtTheirEdges() {
        checks.sentence("==== 1", "of 1, 2, 3 perhaps another one by LETTERS (a, b; a)");
        WordMender x = new WordMender();
        x.price(1, 0, 25, 1);
        x.price(1, 25, 0, 150);
        x.price(2, 0, -1, 2);
        x.price(2, 25, -1, 160);
        x.price(3, 0, -1, 3);
        x.price(3, 25, -1, 170);
        due(x, "a=z", 1, "1");
        due(x, "z=a", 150, "1");
        due(x, "a=y", 100, "1");
        due(x, "b=z", 100, "1");
        due(x, "ba=b", 2, "02");
        due(x, "bz=b", 160, "02");
        due(x, "by=b", 100, "02");
        due(x, "b=ba", 3, "03");
        due(x, "b=bz", 170, "03");
        due(x, "b=by", 100, "03");
        WordMender y = cheap(1, DEAREST);
        y.price(1, 0, 25, DEAREST);
        y.price(1, 25, 0, 9998);
        due(y, "a=z", DEAREST, "1");
        due(y, "z=a", 9998, "1");
    }

    private void allOfMeantAllOfTyped() {
        checks.sentence("==== 1", "A WAY is a row of SLIPS that makes all of MEANT all of TYPED.");
        WordMender x = new WordMender();
        due(x, "ab=a", 100, "02");
        due(x, "a=ab", 100, "03");
        due(x, "ab=b", 100, "20");
        due(x, "b=ab", 100, "30");
        due(x, "abcdefghijkl=abcdefghijkm", 100, "000000000001");
        due(x, "abcdefghijkl=bbcdefghijkl", 100, "100000000000");
        due(x, "abcdefghijkl=l", 1100, "222222222220");
        due(x, "l=abcdefghijkl", 1100, "333333333330");
    }

    private void theLeastSum() {
        checks.sentence("==== 1", "The DISTANCE is the least sum of prices of all WAYS.");
        due(new WordMender(), "abcdefghijkl=abcdefghijkl", 0, "000000000000");
        due(cheap(1, DEAREST), "aaaaaaaaaaaa=bbbbbbbbbbbb", 12 * DEAREST, "111111111111");
        due(cheap(1, DEAREST), "aaaaaaaaaaaa=b", 12 * DEAREST, "122222222222");
        due(cheap(1, DEAREST), "a=bbbbbbbbbbbb", 12 * DEAREST, "133333333333");
        WordMender x = new WordMender();
        x.price(1, -1, -1, 199);
        due(x, "a=b", 199, "1");
        x.price(1, -1, -1, 201);
        due(x, "a=b", 200, "23");
        x.price(4, -1, -1, 199);
        due(x, "ab=ba", 199, "4");
        x.price(4, -1, -1, 201);
        due(x, "ab=ba", 200, "203");
    }

    private void theLeastKindFirst() {
        checks.sentence("==== 1", "of those of this sum, the one whose first SLIP has the least KIND");
        WordMender x = new WordMender();
        due(x, "aa=a", 100, "02");
        due(x, "a=aa", 100, "03");
        x.price(1, -1, -1, 200);
        due(x, "a=b", 200, "1");
        x.price(1, -1, -1, 201);
        due(x, "a=b", 200, "23");
        x.price(2, 0, -1, 200);
        x.price(4, -1, -1, 200);
        due(x, "ab=ba", 200, "302");
        x.price(4, -1, -1, 199);
        due(x, "ab=ba", 199, "4");
        Checks.sound(x, "ab=ba", 199);
        due(x, "ab=ba", 199, "4");
        x.price(4, -1, -1, 200);
        due(x, "ab=ba", 199, "(0)");
        WordMender y = cheap(5, 10);
        y.price(6, -1, -1, 10);
        Checks.sound(y, "ab=c", 1);
        Checks.sound(y, "b=ac", 1);
        due(y, "aab=aac", 11, "5(0)");
        y.price(5, -1, -1, 11);
        due(y, "aab=aac", 11, "6(1)");
        WordMender z = cheap(6, 10);
        Checks.sound(z, "aa=a", 10);
        due(z, "aa=a", 10, "6");
        z.price(6, -1, -1, 11);
        due(z, "aa=a", 10, "(0)");
    }

    private void theLeastSoundFirst() {
        checks.sentence("==== 1", "SOUNDS the least number");
        WordMender x = new WordMender();
        for (int k = 0; k < 20; k++) Checks.sound(x, k == 0 || k == 19 ? "ab=xy" : "ab=zz", 7);
        due(x, "ab=xy", 7, "(0)");
        due(x, "ab=zz", 7, "(1)");
        WordMender y = cheap(1, DEAREST);
        // By the first rows' lengths or prices others would come first.
        Checks.sound(y, "abc=x", 9);
        Checks.sound(y, "a=x", 1);
        Checks.sound(y, "bc=x", DEAREST);
        Checks.sound(y, "bc=y", 8);
        due(y, "abc=xy", 9, "(1)(3)");
        Checks.sound(y, "c=y", 1);
        Checks.sound(y, "ab=x", 8);
        due(y, "abc=xy", 9, "(1)(3)");
    }

    private void theSecondSlipThen() {
        checks.sentence("==== 1", "of these the second one, and so on");
        WordMender x = new WordMender();
        x.price(1, -1, -1, 200);
        due(x, "qa=qb", 200, "01");
        x.price(1, -1, -1, 201);
        due(x, "qa=qb", 200, "023");
        due(x, "qqaa=qqa", 100, "0002");
        due(x, "abcdefghijkl=abcdefghijkm", 200, "0000000000023");
        Checks.sound(x, "z=y", 5);
        Checks.sound(x, "z=y", 5);
        due(x, "abz=aby", 5, "00(0)");
        due(x, "zzz=yyy", 15, "(0)(0)(0)");
    }

    private void priceOfKinds() {
        checks.sentence("Promise 8", "The price of a KIND 1 .. 6 (a = b = NONE)");
        for (int kind = 1; kind <= 6; kind++) {
            WordMender x = new WordMender();
            checks.due("kind " + kind + " least", x.price(kind, -1, -1, 1), 100);
            checks.due("kind " + kind + " greatest", x.price(kind, -1, -1, DEAREST), 1);
            checks.due("kind " + kind + " it was", x.price(kind, -1, -1, 100), DEAREST);
            for (int other = 1; other <= 6; other++) checks.due("kind " + other + " is another", x.price(other, -1, -1, 100), 100);
        }
        for (int kind : new int[] {0, 7, -1, 10, 11, MIN, MAX}) {
            checks.refused("kind " + kind, WordMender.BAD, x -> x.price(kind, -1, -1, 5));
        }
        for (int kind = 1; kind <= 6; kind++) {
            int k = kind;
            checks.refused("kind " + k + " with a alone", WordMender.BAD, x -> x.price(k, -1, 0, 5));
            checks.refused("kind " + k + " with a = -2", WordMender.BAD, x -> x.price(k, -2, -2, 5));
        }
    }

    private void priceByTwoLetters() {
        checks.sentence("Promise 8", "or of KIND 1 by LETTERS a and b (0 .. 25, unlike)");
        int[][] taken = {{0, 1}, {1, 0}, {0, 25}, {25, 0}, {24, 25}, {25, 24}, {12, 13}};
        WordMender x = new WordMender();
        for (int k = 0; k < taken.length; k++) {
            checks.due("letters " + k, x.price(1, taken[k][0], taken[k][1], k + 1), 0);
        }
        for (int k = 0; k < taken.length; k++) {
            checks.due("letters " + k + " again", x.price(1, taken[k][0], taken[k][1], 9), k + 1);
        }
        int[][] refused = {{0, 0}, {1, 1}, {25, 25}, {-1, 1}, {1, -1}, {26, 0}, {0, 26}, {0, 27}, {1, -25}, {-2, 0}, {0, -2},
            {MIN, 1}, {1, MIN}, {MAX, 1}, {1, MAX}, {MAX, MAX}, {1 << 28, 1}, {26, 26}};
        for (int[] r : refused) {
            for (int v : new int[] {0, 1, DEAREST}) {
                checks.refused("letters " + r[0] + " " + r[1] + " " + v, WordMender.BAD, y -> y.price(1, r[0], r[1], v));
            }
        }
        for (int kind : new int[] {0, 4, 5, 6, 7, 8, 9, 10, -1, MAX}) {
            checks.refused("letters of kind " + kind, WordMender.BAD, y -> y.price(kind, 0, 1, 5));
        }
    }

    private void priceByOneLetter() {
        checks.sentence("Promise 8", "2 or 3 by a (b does not matter then)");
        for (int kind = 2; kind <= 3; kind++) {
            int k = kind;
            WordMender x = new WordMender();
            int before = 0;
            for (int b : new int[] {0, 1, 25, 26, -1, -2, MIN, MAX}) {
                checks.due("kind " + k + " letter 0, b " + b, x.price(k, 0, b, before + 1), before);
                before++;
            }
            checks.due("kind " + k + " letter 25", x.price(k, 25, -1, 7), 0);
            checks.due("kind " + k + " letter 25 again", x.price(k, 25, 25, 7), 7);
            checks.due("kind " + (5 - k) + " is another", x.price(5 - k, 25, -1, 7), 0);
            for (int a : new int[] {-2, -26, 26, 27, MIN, MAX}) {
                checks.refused("kind " + k + " letter " + a, WordMender.BAD, y -> y.price(k, a, -1, 5));
                checks.refused("kind " + k + " letter " + a + " to 0", WordMender.BAD, y -> y.price(k, a, 0, 0));
            }
            for (int b : new int[] {0, 25, -2, MAX}) {
                checks.refused("kind " + k + " by b " + b + " alone", WordMender.BAD, y -> y.price(k, -1, b, 5));
            }
        }
    }

    private void priceByLettersGoes() {
        checks.sentence("Promise 8", "v = 0: that by LETTERS is none any more: what it was (0: none by LETTERS)");
        int[][] by = {{1, 3, 4}, {2, 3, -1}, {3, 3, -1}};
        String[] rows = {"d=e", "xd=x", "x=xd"};
        for (int k = 0; k < by.length; k++) {
            WordMender x = new WordMender();
            checks.due("none goes", x.price(by[k][0], by[k][1], by[k][2], 0), 0);
            checks.due("by the kind", Checks.distance(x, rows[k]), 100);
            checks.due("one comes", x.price(by[k][0], by[k][1], by[k][2], 1), 0);
            checks.due("by letters", Checks.distance(x, rows[k]), 1);
            checks.due("it goes", x.price(by[k][0], by[k][1], by[k][2], 0), 1);
            checks.due("by the kind again", Checks.distance(x, rows[k]), 100);
            checks.due("it is none", x.price(by[k][0], by[k][1], by[k][2], DEAREST), 0);
            checks.due("the greatest", x.price(by[k][0], by[k][1], by[k][2], 0), DEAREST);
            checks.due("it went", x.price(by[k][0], by[k][1], by[k][2], 0), 0);
        }
    }

    private void priceOfSplitsAndJoins() {
        checks.sentence("Promise 8", "KINDS 8 and 9 (a = b = NONE): that of splits, of joins.");
        WordMender x = new WordMender();
        checks.due("splits at first", x.price(8, -1, -1, 1), 60);
        checks.due("joins at first", x.price(9, -1, -1, DEAREST), 60);
        checks.due("splits", x.price(8, -1, -1, DEAREST), 1);
        checks.due("joins", x.price(9, -1, -1, 1), DEAREST);
        for (int kind = 8; kind <= 9; kind++) {
            int k = kind;
            int[][] letters = {{0, 1}, {0, -1}, {-1, 0}, {-2, -2}, {25, 24}};
            for (int[] l : letters) {
                checks.refused("kind " + k + " by " + l[0] + " " + l[1], WordMender.BAD, y -> y.price(k, l[0], l[1], 5));
            }
        }
        checks.refused("kind 10", WordMender.BAD, y -> y.price(10, -1, -1, 5));
        checks.refused("kind 7", WordMender.BAD, y -> y.price(7, -1, -1, 5));
    }

    private void priceIsBad() {
        checks.sentence("Promise 8", "BAD: v is not 1 .. 9999 (0 with LETTERS).");
        for (int kind : new int[] {1, 2, 3, 4, 5, 6, 8, 9}) {
            for (int v : new int[] {0, -1, -9999, 10000, MIN, MAX}) {
                checks.refused("kind " + kind + " " + v, WordMender.BAD, x -> x.price(kind, -1, -1, v));
            }
        }
        int[][] by = {{1, 0, 1}, {2, 0, -1}, {3, 0, -1}};
        for (int[] b : by) {
            for (int v : new int[] {-1, -2, 10000, MIN, MAX}) {
                checks.refused("kind " + b[0] + " by letters " + v, WordMender.BAD, x -> x.price(b[0], b[1], b[2], v));
            }
        }
    }

    private void soundTakesOneToThree() {
        checks.sentence("Promise 9", "THE TAPE has its first row, = and its second one (1 to 3 LETTERS each): its number.");
        String[] rows = {"", "a", "ab", "abc", "abcd", "abcdefghijkl"};
        for (String first : rows) {
            for (String second : rows) {
                boolean taken = first.length() >= 1 && first.length() <= 3 && second.length() >= 1 && second.length() <= 3;
                String tape = first + "=" + second;
                if (taken) {
                    WordMender x = new WordMender();
                    checks.due(tape, Checks.sound(x, tape, 5), 0);
                    checks.due(tape + " is one", x.count(2), 1);
                } else {
                    checks.refused(tape, WordMender.BAD, x -> Checks.sound(x, tape, 5));
                }
            }
        }
        for (String tape : new String[] {"", "ab", "a=b=c", "a=b=", "a b", "A=b", "a=B"}) {
            checks.refused("no sound " + tape, WordMender.BAD, x -> Checks.sound(x, tape, 5));
        }
    }

    private void soundPriceIsBad() {
        checks.sentence("Promise 9", "BAD: also v is not 1 .. 9999.");
        for (int v : new int[] {0, -1, 10000, MIN, MAX}) {
            checks.refused("price " + v, WordMender.BAD, x -> Checks.sound(x, "c=k", v));
        }
        WordMender x = cheap(1, DEAREST);
        checks.due("the least", Checks.sound(x, "a=b", 1), 0);
        checks.due("the greatest", Checks.sound(x, "aa=bb", DEAREST), 1);
        due(x, "a=b", 1, "(0)");
        WordMender y = cheap(1, DEAREST);
        Checks.sound(y, "aa=bb", DEAREST);
        due(y, "aa=bb", DEAREST, "(0)");
        checks.due("its price", y.way(0, 1), DEAREST);
    }

    private void soundIsFull() {
        checks.sentence("Promise 9", "FULL.");
        WordMender x = new WordMender();
        for (int k = 0; k < 20; k++) checks.due("sound " + k, Checks.sound(x, "a=" + (char) ('b' + k), 50), k);
        checks.due("the 21st", Checks.sound(x, "y=z", 1), WordMender.FULL);
        checks.due("the tape is emptied", x.count(4), 0);
        checks.due("twenty", x.count(2), 20);
        due(x, "y=z", 100, "1");
        due(x, "a=b", 50, "(0)");
        due(x, "a=u", 50, "(19)");
        checks.due("the same again", Checks.sound(x, "a=b", 1), WordMender.FULL);
        due(x, "a=b", 50, "(0)");
    }

    private void modelTellsWhatItWas() {
        checks.sentence("Promise 10", "The weight of THE MODEL: 0 .. 100000: what it was.");
        WordMender x = new WordMender();
        checks.due("at first", x.model(0), 0);
        checks.due("still", x.model(1), 0);
        checks.due("one", x.model(99999), 1);
        checks.due("most but one", x.model(100000), 99999);
        checks.due("most", x.model(0), 100000);
    }

    private void modelIsBad() {
        checks.sentence("Promise 10", "BAD.");
        for (int w : new int[] {-1, MIN, 100001, MAX}) checks.refused("weight " + w, WordMender.BAD, x -> x.model(w));
    }

    private void distanceOfRows() {
        checks.sentence("Promise 11", "The DISTANCE of two rows: THE TAPE has MEANT, = and TYPED.");
        due(new WordMender(), "a=a", 0, "0");
        due(new WordMender(), "abcdefghijkl=a", 1100, "022222222222");
        due(new WordMender(), "a=abcdefghijkl", 1100, "033333333333");
        due(new WordMender(), "abcdefghijkl=abcdefghijkl", 0, "000000000000");
    }

    private void distanceIsBad() {
        checks.sentence("Promise 11", "BAD.");
        for (String s : new String[] {"", "=", "a", "a=", "=a", "abcdefghijklm=a", "a=abcdefghijklm", "a=b=c", "a==b", "a b", "a=b ",
            "A=a"}) {
            checks.refused("distance of " + s, WordMender.BAD, x -> Checks.distance(x, s));
        }
    }

    private void wayAheadOfAny() {
        checks.sentence("Promise 12", "i = -1: how many SLIPS (0 ahead of any distance())");
        WordMender x = new WordMender();
        for (int what = 0; what < 5; what++) {
            checks.due("ahead of any " + what, x.way(-1, what), 0);
            checks.due("no first one " + what, x.way(0, what), WordMender.NONE);
        }
        Checks.distance(x, "a=");
        checks.due("a refused one is none", x.way(-1, 0), 0);
        Checks.pair(x, "a=b");
        x.learn();
        x.spread();
        Checks.add(x, "a", 1);
        Checks.near(x, "b", 100);
        Checks.mend(x, "b", 100);
        checks.due("others are none", x.way(-1, 0), 0);
        Checks.distance(x, "a=a");
        checks.due("the least", x.way(-1, 0), 1);
    }

    private void wayOfOneToTwentyFour() {
        checks.sentence("Promise 12", "i = -1: how many SLIPS");
        WordMender x = cheap(2, 1);
        x.price(3, -1, -1, 1);
        due(x, "aaaaaaaaaaaa=bbbbbbbbbbbb", 24, "222222222222333333333333");
        checks.due("24 slips", x.way(-1, 0), 24);
        slip(x, 11, 11, 0);
        slip(x, 12, 12, 0);
        slip(x, 23, 12, 11);
        checks.due("the last one's price", x.way(23, 1), 1);
        checks.due("the last one has no sound", x.way(23, 4), WordMender.NONE);
        for (int what = 0; what < 5; what++) checks.due("no 25th " + what, x.way(24, what), WordMender.NONE);
        due(x, "a=a", 0, "0");
        checks.due("no second one any more", x.way(1, 0), WordMender.NONE);
    }

    private void wayTellsOfSlips() {
        checks.sentence("Promise 12", "of its i-th: 0 the KIND, 1 its price, 2 its place in MEANT, 3 in TYPED, 4 the SOUND (NONE)");
        WordMender x = cheap(1, DEAREST);
        for (int k = 0; k < 20; k++) Checks.sound(x, k == 0 ? "z=y" : "wv=u", k < 19 ? 8 : 7);
        due(x, "abzcddwv=abyeddu", 8 + DEAREST + 7, "00(0)100(19)");
        int[][] slips = {{0, 0, 0, 0, -1}, {0, 0, 1, 1, -1}, {7, 8, 2, 2, 0}, {1, DEAREST, 3, 3, -1}, {0, 0, 4, 4, -1}, {0, 0, 5, 5, -1},
            {7, 7, 6, 6, 19}};
        for (int i = 0; i < slips.length; i++) {
            for (int what = 0; what < 5; what++) checks.due("slip " + i + " " + what, x.way(i, what), slips[i][what]);
        }
    }

    private void wayTellsNone() {
        checks.sentence("Promise 12", "NONE: no such.");
        WordMender x = new WordMender();
        Checks.distance(x, "abc=abd");
        checks.due("the last one", x.way(2, 0), 1);
        for (int i : new int[] {3, 4, 24, 100, -2, -3, MIN, MAX}) {
            for (int what = 0; what < 5; what++) checks.due("slip " + i + " " + what, x.way(i, what), WordMender.NONE);
        }
        for (int i = 0; i < 3; i++) checks.due("no sound " + i, x.way(i, 4), WordMender.NONE);
    }

    private void wayIsBad() {
        checks.sentence("Promise 12", "BAD: what.");
        for (int what : new int[] {-1, 5, MIN, MAX}) {
            for (int i = 0; i < 5; i++) {
                int slip = i;
                checks.refused("slip " + slip + " " + what, WordMender.BAD, x -> x.way(slip, what));
            }
        }
    }

    private void wayOfThen() {
        checks.sentence("Promise 12", "THE WAY of the latest distance() that was not refused, with the prices of then");
        WordMender x = new WordMender();
        Checks.sound(x, "ab=x", 3);
        due(x, "abc=xd", 103, "(0)1");
        for (String s : new String[] {"", "a=", "abcdefghijklm=a", "a=b=c"}) {
            checks.due("refused " + s, Checks.distance(x, s), WordMender.BAD);
            checks.same("the way stays", Checks.way(x), "(0)1");
        }
        x.price(1, -1, -1, 7);
        x.price(1, 2, 3, 8);
        checks.due("the sound's price", x.way(0, 1), 3);
        checks.due("the price of then", x.way(1, 1), 100);
        due(x, "abc=xd", 11, "(0)1");
        checks.due("the price of now", x.way(1, 1), 8);
    }
}
