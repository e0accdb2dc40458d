/** Ciphers: promises 38 to 42, with the term A CIPHER. */
public final class Promises38To42Test extends Cases {
    private static final int MIN = Integer.MIN_VALUE;
    private static final int MAX = Integer.MAX_VALUE;
    private static final int[] NO_KEYS = {-1, 26, 99, 776, 999, 18576, MIN, MAX};
    private static final int[] KEYS = {0, 25, 100, 775, 1000, 18575};

    public static void main(String[] args) {
        run(Promises38To42Test.class, 38, 42);
    }

    private static BlackCabinet named(String name) {
        return in("noon 9;" + (name.isEmpty() ? "" : "name " + name + ";"));
    }

    private static BlackCabinet cipher(String name, String letters) {
        return spell(named(name), 0, letters);
    }

    private static int key(int... shifts) {
        return shifts.length == 1 ? shifts[0]
            : shifts.length == 2 ? 100 + 26 * shifts[0] + shifts[1]
            : 1000 + 676 * shifts[0] + 26 * shifts[1] + shifts[2];
    }

    /** What is in a tray, told by a name of one letter: the first place of each letter. */
    private static void firstPlaces(BlackCabinet x, int tray, String letters) {
        for (int i = 0; i < letters.length(); i++) {
            read(x, "noon 9;name " + letters.charAt(i) + ";");
            due("'" + letters.charAt(i) + "'", x.place(tray, 0), letters.indexOf(letters.charAt(i)));
        }
    }

    // ---- 38: keys

    static void promise38_noSuchTray() {
        BlackCabinet x = named("ab");
        due(x.keys(-1), -2);
        due(x.keys(4), -2);
        due(x.keys(MIN), -2);
        due(x.keys(MAX), -2);
    }

    static void promise38_aMissingTray() {
        dueAll(named("ab")::keys, -6, -6, -6, -6, -2);
    }

    static void promise38_notOneNumber() {
        due(cipher("ab", "").keys(0), -4);
    }

    static void promise38_oneNumber() {
        due(cipher("c", "e").keys(0), 1 + 26 + 676);
    }

    static void promise38_fortyNumbers() {
        due(cipher("zzzzzzzz", "a".repeat(40)).keys(0), 3);
    }

    static void promise38_numbersAre0To25() {
        BlackCabinet x = named("ab");
        due(fill(x, 0, 0, 25).keys(0), 1 + 26);
        for (long no : new long[] {-1, 26, 100, 1L << 32, Long.MIN_VALUE, Long.MAX_VALUE}) {
            due(fill(x, 0, no, 1).keys(0), -3);
            due(fill(x, 0, 1, no).keys(0), -3);
        }
        x.numbers(1, 2, 40);
        due(x.keys(1), 2 + 3 * 26);
        x.write(1, 39, 26);
        due(x.keys(1), -3);
    }

    static void promise38_withoutAName() {
        due(cipher("", "abc").keys(0), 0);
        due(cipher("", "").keys(0), -4);
        due(spell(new BlackCabinet(), 0, "abc").keys(0), 0);
    }

    static void promise38_theNameIsLongerThanTheText() {
        due(cipher("ab", "a").keys(0), 0);
        due(cipher("abcdefgh", "abcdefg").keys(0), 0);
        due(cipher("abcdefgh", "abcdefgh").keys(0), 3);
    }

    static void promise38_aLongerKeyCountsAlsoIfItDoesAsAShorterOne() {
        BlackCabinet x = cipher("aaa", "zzz");
        dueAll(i -> x.keyAt(0, i), 25, 775, 18575, -1);
        due(x.keys(0), 3);
    }

    static void promise38_aKeyThatFitsAtTwoPlacesCountsOnce() {
        due(cipher("aa", "aaaa").keys(0), 1 + 1 + 26 * 3 - 2);
        due(cipher("aa", "aba").keys(0), 1 + 26 + 26 - 1);
    }

    static void promise38_aNameOfOneLetter() {
        due(cipher("a", "ab").keys(0), 2 + 51 + 676 * 2 - 26);
    }

    // ---- 39: keyAt

    static void promise39_asKeys() {
        BlackCabinet x = named("ab");
        due(x.keyAt(-1, 0), -2);
        due(x.keyAt(4, 0), -2);
        due(x.keyAt(0, 0), -6);
        due(fill(x, 0).keyAt(0, 0), -4);
        due(fill(x, 0, 26).keyAt(0, 0), -3);
        due(fill(x, 0, -1).keyAt(0, 99), -3);
    }

    static void promise39_iBelow0() {
        due(cipher("ab", "cd").keyAt(0, -1), -3);
        due(cipher("ab", "cd").keyAt(0, MIN), -3);
        due(cipher("", "cd").keyAt(0, -1), -3);
    }

    static void promise39_iBelow0BehindTheOthers() {
        BlackCabinet x = named("ab");
        due(x.keyAt(4, -1), -2);
        due(x.keyAt(0, -1), -6);
        due(fill(x, 0).keyAt(0, -1), -4);
    }

    static void promise39_notSoMany() {
        BlackCabinet x = cipher("ab", "cd");
        due(x.keyAt(0, 27), key(2, 2, 25));
        due(x.keyAt(0, 28), -1);
        due(x.keyAt(0, MAX), -1);
        due(cipher("ab", "c").keyAt(0, 0), -1);
        due(cipher("", "c").keyAt(0, 0), -1);
    }

    static void promise39_byNumbers() {
        BlackCabinet x = cipher("c", "e");
        due(x.keyAt(0, 0), key(2));
        due(x.keyAt(0, 1), key(2, 0));
        due(x.keyAt(0, 26), key(2, 25));
        due(x.keyAt(0, 27), key(2, 0, 0));
        due(x.keyAt(0, 702), key(2, 25, 25));
        due(x.keyAt(0, 703), -1);
    }

    static void promise39_theLeastAndTheGreatest() {
        dueAll(i -> cipher("aaa", "aaa").keyAt(0, i), 0, 100, 1000, -1);
        dueAll(i -> cipher("aaa", "zzz").keyAt(0, i), 25, 775, 18575, -1);
    }

    // ---- 40: place

    static void promise40_asKeys() {
        BlackCabinet x = named("ab");
        due(x.place(-1, 0), -2);
        due(x.place(4, 0), -2);
        due(x.place(0, 0), -6);
        due(fill(x, 0).place(0, 0), -4);
        due(fill(x, 0, 26).place(0, 0), -3);
    }

    static void promise40_noSuchKey() {
        for (int key : NO_KEYS) {
            due("key " + key, cipher("a", "a").place(0, key), -3);
            due("key " + key, cipher("", "a").place(0, key), -3);
        }
    }

    static void promise40_noSuchKeyBehindTheOthers() {
        BlackCabinet x = named("ab");
        due(x.place(4, 26), -2);
        due(x.place(0, 26), -6);
        due(fill(x, 0).place(0, 26), -4);
    }

    static void promise40_theLeastAndTheGreatestKeys() {
        dueAll(i -> cipher("aaa", "aaa").place(0, KEYS[i]), 0, -1, 0, -1, 0, -1);
        dueAll(i -> cipher("aaa", "zzz").place(0, KEYS[i]), -1, 0, -1, 0, -1, 0);
    }

    static void promise40_itDoesntOccur() {
        due(cipher("ab", "ab").place(0, 1), -1);
        due(cipher("ab", "a").place(0, 0), -1);
        due(cipher("", "a").place(0, 0), -1);
    }

    static void promise40_theFirstPlace() {
        due(cipher("ab", "zabab").place(0, 0), 1);
        due(cipher("aa", "baaa").place(0, 0), 1);
        due(cipher("aab", "aaab").place(0, 0), 1);
    }

    static void promise40_theLastPlace() {
        due(cipher("ab", "z".repeat(38) + "ab").place(0, 0), 38);
        due(cipher("ab", "z".repeat(38) + "za").place(0, 0), -1);
        due(cipher("a", "b".repeat(39) + "a").place(0, 0), 39);
    }

    static void promise40_numbersWrapAround() {
        due(cipher("b", "a").place(0, 25), 0);
        due(cipher("z", "a").place(0, 1), 0);
        due(cipher("bz", "aa").place(0, key(25, 1)), 0);
        due(cipher("a", "z").place(0, 25), 0);
    }

    static void promise40_shiftsGoRound() {
        due(cipher("bzb", "aaaa").place(0, key(25, 1)), 0);
        due(cipher("ab", "aaaa").place(0, key(25, 1, 0)), 2);
        due(cipher("abzab", "aaaaaaaa").place(0, key(25, 1, 0)), 2);
    }

    // ---- 41: plain

    static void promise41_noSuchTray() {
        BlackCabinet x = cipher("", "abc");
        x.numbers(1, 0, 3);
        due(x.plain(-1, 0, 1), -2);
        due(x.plain(4, 0, 1), -2);
        due(x.plain(0, 0, -1), -2);
        due(x.plain(0, 0, 4), -2);
        due(x.plain(MIN, MIN, MAX), -2);
    }

    static void promise41_bothOne() {
        due(cipher("", "abc").plain(0, 0, 0), -2);
        due(new BlackCabinet().plain(3, 0, 3), -2);
    }

    static void promise41_oneIsMissing() {
        BlackCabinet x = cipher("", "abc");
        due(x.plain(0, 0, 1), -6);
        due(x.plain(1, 0, 0), -6);
        due(x.plain(1, 0, 2), -6);
        due(x.plain(0, -1, 1), -6);
        fill(x, 0);
        due(x.plain(0, 0, 1), -6);
    }

    static void promise41_noNumbers() {
        BlackCabinet x = fill(fill(new BlackCabinet(), 0), 1, 5);
        due(x.plain(0, 0, 1), -4);
        due(x.plain(0, -1, 1), -4);
    }

    static void promise41_aNumberThatCantBe() {
        BlackCabinet x = fill(fill(new BlackCabinet(), 0, 1, 26), 1, 7);
        due(x.plain(0, 0, 1), -3);
        firstPlaces(x, 1, "h");
    }

    static void promise41_noSuchKey() {
        BlackCabinet x = fill(cipher("", "abc"), 1, 7, 8);
        for (int key : NO_KEYS) {
            due("key " + key, x.plain(0, key, 1), -3);
        }
        firstPlaces(x, 1, "hi");
    }

    static void promise41_asManyPlacesAsNumbers() {
        BlackCabinet x = fill(cipher("", "abcxyz"), 1, 0, 0, 0, 0, 0, 0);
        due(x.plain(0, key(25, 1), 1), 6);
        firstPlaces(x, 1, "badwzy");
    }

    static void promise41_fewerPlaces() {
        BlackCabinet x = fill(cipher("", "abcd"), 1, 9, 9);
        due(x.plain(0, 0, 1), 2);
        firstPlaces(x, 1, "ab");
        due(fill(x, 2).plain(0, 0, 2), 0);
    }

    static void promise41_morePlacesStay() {
        BlackCabinet x = fill(cipher("", "ab"), 1, 9, 8, 7, 6);
        due(x.plain(0, 1, 1), 2);
        firstPlaces(x, 1, "zahg");
    }

    static void promise41_fortyPlaces() {
        BlackCabinet x = cipher("", "b".repeat(40));
        x.numbers(3, 3, 40);
        due(x.plain(0, key(1, 2, 3), 3), 40);
        firstPlaces(x, 3, "azyazy");
    }

    static void promise41_withoutANameToo() {
        BlackCabinet x = fill(spell(new BlackCabinet(), 0, "b"), 1, 9);
        due(x.plain(0, 1, 1), 1);
        firstPlaces(x, 1, "a");
        firstPlaces(x, 0, "b");
    }

    static void promise41_eachSort() {
        for (int sort = 0; sort < 4; sort++) {
            BlackCabinet x = cipher("", "az");
            x.numbers(1, sort, 2);
            due(x.plain(0, 1, 1), 2);
            firstPlaces(x, 1, "zy");
        }
    }

    // ---- 42: look

    static void promise42_asKeys() {
        BlackCabinet x = named("ab");
        due(x.look(-1), -2);
        due(x.look(4), -2);
        due(x.look(0), -6);
        due(fill(x, 0).look(0), -4);
        due(fill(x, 0, 26).look(0), -3);
        due(fill(x, 0, 0, -1).look(0), -3);
    }

    static void promise42_noneFits() {
        due(cipher("ab", "a").look(0), -1);
        due(cipher("", "abc").look(0), -1);
        due(cipher("aaaa", "abca").look(0), 0);
        due(cipher("aaaa", "abcb").look(0), -1);
    }

    static void promise42_theFirstOfLikeOnes() {
        due(cipher("abc", "abcz").look(0), 0);
        due(cipher("abc", "azzc").look(0), 1);
        due(cipher("aa", "aaa").look(0), 0);
    }

    static void promise42_theGreatestNumberOfUnlikeLetters() {
        // The keys that fit are 0 5 8 and 0 5 9.
        BlackCabinet x = cipher("aab", "afjb");
        dueAll(i -> x.keyAt(0, i), key(0, 5, 8), key(0, 5, 9), -1);
        due(x.look(0), 2);
    }

    static void promise42_keysOfTwoShiftsCountToo() {
        // The keys 1 25, 1 25 1 and 2 0 0 fit: at the last place their shifts are 25, 1 and 2, at the others two.
        BlackCabinet x = cipher("aba", "babc");
        dueAll(i -> x.keyAt(0, i), key(1, 25), key(1, 25, 1), key(2, 0, 0), -1);
        due(x.look(0), 3);
        due(cipher("aba", "aaac").look(0), 3);
        due(cipher("aba", "bbab").look(0), 0);
        due(cipher("abab", "ccccd").look(0), 1);
    }

    static void promise42_oneBehindAnother() {
        BlackCabinet x = spell(cipher("aba", "bbbbbb"), 1, "babc");
        due(x.look(0), 0);
        due(x.look(1), 3);
    }

    static void promise42_unlikeLettersNotKeys() {
        due(cipher("ab", "cd").keys(0), 28);
        due(cipher("ab", "cd").look(0), 0);
    }
}
