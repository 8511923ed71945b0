/** The edges of a TOWN's text and its FAULTS (Terms I), a test for each sentence that names one. */
public final class TextEdgesTest {
    private static final String ROOMS = "room a;room b;";
    private static final String MEN = "man k lets all bribe 5 tires 1;man l lets all bribe 5 tires 1;";
    private static final String WHOLE = ROOMS + MEN + "gate a b by l;person p at a to b coins 7 tact 8;";

    public static void main(String[] args) {
        Check c = new Check("TextEdgesTest");
        statements(c);
        rooms(c);
        men(c);
        gates(c);
        people(c);
        tires(c);
        coinsAndTact(c);
        hours(c);
        unlikeRooms(c);
        manOfNoGate(c);
        numberedAsTold(c);
        personsRooms(c);
        nameLengths(c);
        ownWordsAsNames(c);
        unlikeNames(c);
        toldAhead(c);
        blanks(c);
        sideBySide(c);
        wordsWhole(c);
        partsMissing(c);
        fifthDigit(c);
        endsTooSoon(c);
        noneOfWhatIsAsked(c);
        openAtOnce(c);
        notUntilItsFactEnds(c);
        firstAlongTheText(c);
        longestTexts(c);
        c.end();
    }

    /** "{ STATEMENT ; } (80 at most)"; fault 5: "an 81st STATEMENT (whatever stands there), at its first byte". */
    private static void statements(Check c) {
        c.well("", 0);
        c.well("hour 1;".repeat(79), 79);
        c.well("hour 1;".repeat(80), 80);
        c.well("hour 1;".repeat(80) + " \n \n", 80);
        c.well(Full.rooms(10) + "hour 1;".repeat(70), 80);
        for (String behind : new String[] {"hour 1;", "room x;", "hour 99;", "hour", "h", "x", "!", ";", "5", "12345", "(", "\u00e9", "\0", "\t"}) {
            c.bad(5, "hour 1;".repeat(80) + "^" + behind);
            c.bad(5, "hour 1;".repeat(80) + "\n ^" + behind);
        }
        c.bad(5, Full.rooms(10) + "hour 1;".repeat(70) + "^room x;");
        c.bad(1, "hour 1;".repeat(79) + "hour 1^");
        c.bad(1, "hour 1;".repeat(79) + "^;hour 1;");
    }

    /** "10 ROOMS"; fault 5: "one too many of a kind .. at its first byte". */
    private static void rooms(Check c) {
        c.well(Full.rooms(9), 9);
        c.well(Full.rooms(10), 10);
        c.due("10 rooms", 10, Check.told(Full.rooms(10)).has(0));
        tooMany(c, Full.rooms(10), "room", "room x;", "room ra;", "room;", "room 5;", "room5", "room by;");
        c.bad(1, Full.rooms(10) + "^rooms x;");
        c.well(Full.rooms(10) + "hour 1;", 11);
    }

    /** "12 MEN". */
    private static void men(Check c) {
        c.well(Full.men(11), 11);
        c.well(Full.men(12), 12);
        c.due("12 men", 12, Check.told(Full.men(12)).has(1));
        tooMany(c, Full.men(12), "man", "man x lets all bribe 0 tires 1;", "man ma", "man;");
        c.well(Full.men(12) + "room x;", 13);
    }

    /** "12 GATES". */
    private static void gates(Check c) {
        String ahead = Full.rooms(10) + Full.men(12);
        c.well(ahead + Full.gates(11), 33);
        c.well(ahead + Full.gates(12), 34);
        c.due("12 gates", 12, Check.told(ahead + Full.gates(12)).has(2));
        tooMany(c, ahead + Full.gates(12), "gate", "gate ra rb by ma;", "gate x", "gate;");
        c.well(ahead + Full.gates(12) + "hour 1;", 35);
    }

    /** "6 PEOPLE". */
    private static void people(Check c) {
        String ahead = Full.rooms(10);
        c.well(ahead + Full.people(5), 15);
        c.well(ahead + Full.people(6), 16);
        c.due("6 people", 6, Check.told(ahead + Full.people(6)).has(3));
        tooMany(c, ahead + Full.people(6), "person", "person x at ra to ra coins 0 tact 0;", "person pa", "person;");
        c.well(ahead + Full.people(6) + "man x lets all bribe 0 tires 1;", 17);
    }

    private static void tooMany(Check c, String ahead, String... ones) {
        for (String one : ones) {
            c.bad(5, ahead + "^" + one);
            c.bad(5, ahead + " \n^" + one);
        }
    }

    /** "tires N (1 .. 20 ..)"; fault 2: "a number that can't be, at it". */
    private static void tires(Check c) {
        String ahead = "man m lets all bribe 5 tires ";
        for (int n : new int[] {1, 2, 19, 20}) {
            c.due("tires " + n, n, Check.told(ahead + n + ";").man(0, 1));
        }
        c.due("tires 0001", 1, Check.told(ahead + "0001;").man(0, 1));
        c.due("tires 0020", 20, Check.told(ahead + "0020;").man(0, 1));
        for (String n : new String[] {"0", "00", "0000", "21", "0021", "99", "9999"}) {
            c.bad(2, ahead + "^" + n + ";");
            c.bad(2, ahead + " \n^" + n);
        }
        c.bad(1, ahead + "^-1;");
    }

    /** "coins N tact N (.. 0 .. 999, 0 .. 99 ..)". */
    private static void coinsAndTact(Check c) {
        String ahead = "room a;person p at a to a coins ";
        for (int n : new int[] {0, 1, 998, 999}) {
            c.due("coins " + n, n, Check.told(ahead + n + " tact 5;").person(0, 2));
        }
        for (int n : new int[] {0, 1, 98, 99}) {
            c.due("tact " + n, n, Check.told(ahead + "5 tact " + n + ";").person(0, 3));
        }
        c.due("coins 0999", 999, Check.told(ahead + "0999 tact 0099;").person(0, 2));
        c.bad(2, ahead + "^1000 tact 5;");
        c.bad(2, ahead + "^9999 tact 5;");
        c.bad(2, ahead + "999 tact ^100;");
        c.bad(2, ahead + "999 tact ^0100;");
        c.bad(2, ahead + "999 tact ^9999;");
        c.bad(2, ahead + "^1000 tact 100;");
    }

    /** "hour N (0 .. 23; the last one counts; 0 without)". */
    private static void hours(Check c) {
        for (int n : new int[] {0, 1, 22, 23}) {
            c.due("hour " + n, n, Check.told("hour " + n + ";").has(4));
        }
        c.bad(2, "hour ^24;");
        c.bad(2, "hour 23;hour ^0024;");
        c.bad(2, "hour ^9999;");
        c.due("the last one", 0, Check.told("hour 5;room a;hour 23;room b;hour 0;room d;").has(4));
        c.due("the last one", 23, Check.told("hour 0;hour 23;").has(4));
        TenthMan x = Check.told("hour 5;");
        c.due("0 without", 1, Check.town(x, "room a;"));
        c.due("0 without, behind another", 0, x.has(4));
        c.due("an hour in a text with a fault", -1, Check.town(x, "hour 9;hour 24;"));
        c.due("counts for nothing", 0, x.has(4));
    }

    /** "two unlike ROOMS"; fault 3: "the second ROOM of a GATE the same one". */
    private static void unlikeRooms(Check c) {
        c.bad(3, ROOMS + MEN + "gate a ^a by k;");
        c.bad(3, ROOMS + MEN + "gate b ^b by k;");
        c.bad(3, ROOMS + MEN + "gate a ^a by x;");
        c.well(ROOMS + MEN + "gate a b by k;gate b a by l;", 6);
        c.well(ROOMS + MEN + "gate a b by k;gate a b by l;", 6);
    }

    /** "a MAN of no GATE so far"; fault 3: "a MAN who has a GATE". */
    private static void manOfNoGate(Check c) {
        c.bad(3, ROOMS + MEN + "gate a b by k;gate b a by ^k;");
        c.bad(3, ROOMS + MEN + "gate a b by l;gate b a by ^l;");
        c.bad(3, ROOMS + MEN + "gate a b by k;gate b a by l;gate b a by ^l;");
        c.bad(3, Full.rooms(10) + Full.men(12) + Full.gates(11) + "gate ra rb by ^mk;");
        c.well(ROOMS + MEN + "gate a b by l;gate b a by k;", 6);
        TenthMan x = Check.told(ROOMS + MEN + "gate a b by l;");
        c.due("a man of no gate at all", -1, x.man(0, 0));
        c.due("a man of the town ahead has no gate", 5, Check.town(x, ROOMS + MEN + "gate a b by l;"));
    }

    /** "12 GATES, numbered as they are told" (and so all else). */
    private static void numberedAsTold(Check c) {
        TenthMan x = Check.told("room b;room a;room d;" + MEN + "gate d a by l;gate a b by k;person q at d to a coins 1 tact 1;"
                + "person p at a to d coins 2 tact 2;");
        c.due("room 0", 2, x.letter(0, 0, 0));
        c.due("room 1", 1, x.letter(0, 1, 0));
        c.due("gate 0 first", 2, x.gate(0, 0));
        c.due("gate 0 other", 1, x.gate(0, 1));
        c.due("gate 0 man", 1, x.gate(0, 2));
        c.due("gate 1 first", 1, x.gate(1, 0));
        c.due("gate 1 other", 0, x.gate(1, 1));
        c.due("gate 1 man", 0, x.gate(1, 2));
        c.due("person 0", 17, x.letter(2, 0, 0));
        c.due("person 1", 16, x.letter(2, 1, 0));
    }

    /** "person NAME at NAME to NAME (two ROOMS, unlike or not ..)". */
    private static void personsRooms(Check c) {
        TenthMan x = Check.told(ROOMS + "person p at b to b coins 0 tact 0;person q at b to a coins 0 tact 0;");
        c.due("p is at b", 1, x.person(0, 0));
        c.due("p goes to b", 1, x.person(0, 1));
        c.due("q is at b", 1, x.person(1, 0));
        c.due("q goes to a", 0, x.person(1, 1));
    }

    /** Texts with a mark # at each place where a NAME is asked. */
    private static final String[] NAME_PLACES = {"room #;", "man # lets all bribe 5 tires 1;", ROOMS + MEN + "gate # b by k;",
        ROOMS + MEN + "gate a # by k;", ROOMS + MEN + "gate a b by #;", ROOMS + "person # at a to b coins 1 tact 1;",
        ROOMS + "person p at # to b coins 1 tact 1;", ROOMS + "person p at a to # coins 1 tact 1;"};

    /** "NAMES: 1 to 6 letters"; fault 1: "where a NAME is asked .. a 7th letter at itself". */
    private static void nameLengths(Check c) {
        c.well("room z;", 1);
        c.well("room abcdef;man bcdefg lets all bribe 5 tires 1;person cdefgh at abcdef to abcdef coins 1 tact 1;", 3);
        for (String place : NAME_PLACES) {
            c.bad(1, place.replace("#", "^;"));
            c.bad(1, place.replace("#", "abcdef^g"));
            c.bad(1, place.replace("#", "abcdef^ghijklmnop"));
            c.bad(1, place.replace("#", "person^s"));
            c.bad(1, place.replace("#", "passed^by"));
            c.bad(1, place.replace("#", "^5"));
            c.bad(1, place.replace("#", "^(a)"));
        }
        c.bad(1, "room abcdef;room abcdef^a;");
        c.bad(1, "room abcdef^g");
    }

    /** "no OWN WORD"; fault 1: "where a NAME is asked, an OWN WORD so". */
    private static void ownWordsAsNames(Check c) {
        String[] words = Full.OWN_WORDS.split(" ");
        c.due("own words", 22, words.length);
        for (String word : words) {
            for (String place : NAME_PLACES) {
                c.bad(1, place.replace("#", "^" + word));
            }
            String longer = (word + "x").substring(0, Math.min(6, word.length() + 1));
            c.well("room " + (longer.equals(word) ? "x" : longer) + ";", 1);
            c.well("room " + word.charAt(0) + ";", 1);
            c.well("room x" + word.substring(1) + ";", 1);
        }
    }

    /** "unlike ones (of all sorts)"; fault 3: "a NAME to be given that is there already". */
    private static void unlikeNames(Check c) {
        String[] tell = {"room #;", "man # lets all bribe 5 tires 1;", "person # at r to r coins 1 tact 1;"};
        for (String first : tell) {
            for (String second : tell) {
                c.bad(3, "room r;" + first.replace("#", "x") + second.replace("#", "^x"));
                c.bad(3, "room r;" + first.replace("#", "abcdef") + second.replace("#", "^abcdef"));
                c.well("room r;" + first.replace("#", "x") + second.replace("#", "xx"), 3);
                c.well("room r;" + first.replace("#", "abcdef") + second.replace("#", "abcdeg"), 3);
            }
        }
        c.bad(3, Full.rooms(9) + "room ^ri;");
        c.bad(3, Full.men(11) + "room ^mk;");
        c.bad(3, Full.rooms(10) + Full.people(5) + "man ^pe lets all bribe 5 tires 1;");
        TenthMan x = Check.told("room a;");
        c.due("a name of the town ahead is free again", 1, Check.town(x, "man a lets all bribe 5 tires 1;"));
    }

    /** "told ahead of where they are asked". */
    private static void toldAhead(Check c) {
        c.bad(3, "room a;" + MEN + "gate a ^b by k;room b;");
        c.bad(3, "room b;" + MEN + "gate ^a b by k;room a;");
        c.bad(3, ROOMS + "gate a b by ^k;" + MEN);
        c.bad(3, "person p at ^a to a coins 1 tact 1;room a;");
        c.bad(3, "room a;person p at a to ^b coins 1 tact 1;room b;");
        TenthMan x = Check.told(WHOLE);
        c.due("names of the town ahead are none", -1, Check.town(x, "room b;person q at b to a coins 1 tact 1;"));
        c.due("fault", 3, x.fault(0));
        c.due("place", 24, x.fault(1));
    }

    /** "Blanks (10, 32) are where one likes". */
    private static void blanks(Check c) {
        c.well("\n \n", 0);
        c.well(" \nroom\na\n;\n\nroom b ; ", 2);
        c.well("room a;room b;man k lets[not[all]]or 1<(2)bribe(5)*min(1,2)+max(tact,3)tires 1;gate a b by k;", 4);
        c.well(" room  a ;\nroom b ; man k lets [ not [ all ] ] or 1 < ( 2 ) bribe ( 5 ) * min ( 1 , 2 ) + max\n( tact , 3 ) tires 1 ; ", 3);
        for (int sign = 0; sign < 256; sign++) {
            boolean letter = sign >= 'a' && sign <= 'z';
            boolean digit = sign >= '0' && sign <= '9';
            if (letter || digit || sign == '^') {
                continue;
            }
            if (sign == 10 || sign == 32) {
                c.well("room" + (char) sign + "a" + (char) sign + ";" + (char) sign, 1);
            } else {
                c.bad(1, "room^" + (char) sign + "a;");
                c.bad(1, "room a;^" + (char) sign);
            }
        }
        c.bad(1, "^ro om a;");
        c.bad(1, "room a ^b;");
        c.bad(1, "hour 1 ^2;");
    }

    /** "(words and numbers side by side need one)". */
    private static void sideBySide(Check c) {
        c.bad(1, "hour^5;");
        c.bad(1, "room a^5;");
        c.bad(1, "man m lets all bribe^5 tires 1;");
        c.bad(1, "man m lets all bribe 5^tires 1;");
        c.bad(1, "man m lets all bribe 5 tires^1;");
        c.bad(1, "man m lets 1<2^or all bribe 5 tires 1;");
        c.bad(1, "man m lets 1<2^and all bribe 5 tires 1;");
        c.bad(1, "man m lets not^1<2 bribe 5 tires 1;");
        c.bad(1, "man m lets^1<2 bribe 5 tires 1;");
        c.bad(1, "room a;person p at a to a coins^1 tact 1;");
        c.bad(1, "room a;person p at a to a coins 1^tact 1;");
        c.bad(1, "room a;person p at a to a coins 1 tact^1;");
        c.well("man m lets 1<2\nor all bribe 5\ntires\n1;hour\n5;", 2);
        c.bad(1, "^hourx 5;");
        c.bad(1, "^roomab;");
    }

    /** Fault 1: "words and numbers whole, at their first byte". */
    private static void wordsWhole(Check c) {
        c.bad(1, "^roo");
        c.bad(1, "^roomy x;");
        c.bad(1, "^persons p;");
        c.bad(1, "^roomroomroom");
        c.bad(1, "^12345;");
        c.bad(1, "room a;^mann m;");
        c.bad(1, "man m ^letss all bribe 5 tires 1;");
        c.bad(1, "man m lets ^al bribe 5 tires 1;");
        c.bad(1, "man m lets ^alll bribe 5 tires 1;");
        c.bad(1, "man m lets all ^bribes 5 tires 1;");
        c.bad(1, "man m lets all ^123456 5 tires 1;");
        c.bad(1, "man m lets all bribe 5 ^12345 tires 1;");
        c.bad(1, "man m lets all bribe 5 ^tire 1;");
        c.bad(1, "man m lets all bribe ^tacts tires 1;");
        c.bad(1, "man m lets all bribe ^passedx tires 1;");
        c.bad(1, "man m lets all bribe ^minimal(1,2) tires 1;");
        c.bad(1, ROOMS + MEN + "gate a b ^bye k;");
        c.bad(1, ROOMS + MEN + "gate a b ^abcdefghi k;");
        c.bad(1, ROOMS + "person p ^att a to a coins 1 tact 1;");
        c.bad(1, ROOMS + "person p at a ^too a coins 1 tact 1;");
        c.bad(1, ROOMS + "person p at a to a ^coin 1 tact 1;");
        c.bad(1, ROOMS + "person p at a to a coins 1 ^tac 1;");
        c.bad(1, "hour 5 ^hour");
        c.bad(1, "hour ^five;");
    }

    /** Fault 1 where TEST, FACT, SUM, PART or SIGN is asked and what comes behind it stands there. */
    private static void partsMissing(Check c) {
        c.bad(1, "man m lets ^bribe 5 tires 1;");
        c.bad(1, "man m lets all or ^bribe 5 tires 1;");
        c.bad(1, "man m lets all and ^or all bribe 5 tires 1;");
        c.bad(1, "man m lets not ^bribe 5 tires 1;");
        c.bad(1, "man m lets [^] bribe 5 tires 1;");
        c.bad(1, "man m lets 1 ^bribe 5 tires 1;");
        c.bad(1, "man m lets 1 ^2 bribe 5 tires 1;");
        c.bad(1, "man m lets tact ^tact bribe 5 tires 1;");
        c.bad(1, "man m lets (1)^(2) bribe 5 tires 1;");
        c.bad(1, "man m lets ^<2 bribe 5 tires 1;");
        c.bad(1, "man m lets 1<^bribe 5 tires 1;");
        c.bad(1, "man m lets 1<^=2 bribe 5 tires 1;");
        c.bad(1, "man m lets 1<2^<3 bribe 5 tires 1;");
        c.bad(1, "man m lets all^=all bribe 5 tires 1;");
        c.bad(1, "man m lets all bribe ^tires 1;");
        c.bad(1, "man m lets all bribe 5+^tires 1;");
        c.bad(1, "man m lets all bribe 5*^tires 1;");
        c.bad(1, "man m lets all bribe 5*^/5 tires 1;");
        c.bad(1, "man m lets all bribe ^-5 tires 1;");
        c.bad(1, "man m lets all bribe (^) tires 1;");
        c.bad(1, "man m lets all bribe (5^,6) tires 1;");
        c.bad(1, "man m lets all bribe min ^5 tires 1;");
        c.bad(1, "man m lets all bribe min ^tires 1;");
        c.bad(1, "man m lets all bribe min(^,6) tires 1;");
        c.bad(1, "man m lets all bribe min(5,^) tires 1;");
        c.bad(1, "man m lets all bribe min(5^) tires 1;");
        c.bad(1, "man m lets all bribe max(5,6^,7) tires 1;");
        c.bad(1, "man m lets all bribe max(5,6 ^tires 1;");
        c.bad(1, "man m lets all bribe (5 ^tires 1;");
        c.bad(1, "man m lets [all ^bribe 5 tires 1;");
        c.bad(1, "man m lets all^] bribe 5 tires 1;");
        c.bad(1, "man m lets all bribe 5^) tires 1;");
        c.bad(1, "man m lets all bribe ^all tires 1;");
        c.bad(1, "man m lets all bribe ^not 5 tires 1;");
        c.bad(1, "man m lets all bribe ^[5] tires 1;");
        c.bad(1, "man m lets (^all) bribe 5 tires 1;");
        c.bad(1, "man m lets (1^<2) bribe 5 tires 1;");
        c.bad(1, "man m lets all bribe ^m tires 1;");
        c.bad(1, "man m lets all bribe ^coins tires 1;");
    }

    /** "N (1 to 4 digits)"; fault 1: "where a number is asked, a 5th digit at itself". */
    private static void fifthDigit(Check c) {
        String[] places = {"hour #;", "man m lets all bribe # tires 1;", "man m lets #<1 bribe 1 tires 1;",
            "man m lets 1<# bribe 1 tires 1;", "man m lets all bribe 1+# tires 1;", "man m lets all bribe 1*(#) tires 1;",
            "man m lets all bribe min(1,#) tires 1;", "man m lets all bribe 5 tires #;", "room a;person p at a to a coins # tact 1;",
            "room a;person p at a to a coins 1 tact #;"};
        for (String place : places) {
            c.well(place.replace("#", "1"), place.startsWith("room") ? 2 : 1);
            c.well(place.replace("#", "0001"), place.startsWith("room") ? 2 : 1);
            c.bad(1, place.replace("#", "0000^1"));
            c.bad(1, place.replace("#", "1234^5"));
            c.bad(1, place.replace("#", "0000^000001"));
            c.bad(1, place.replace("#", "^;"));
        }
        c.well("man m lets 0=9999 bribe 9999 tires 1;", 1);
        c.bad(1, "hour 0000^5");
    }

    /** Fault 1: "at the text's length, if it ends too soon". */
    private static void endsTooSoon(Check c) {
        String[] tokens = ("room a ; man k lets not [ all ] or 1 < 2 and max ( 1 , 2 ) = tact bribe ( 5 + 6 ) * 7 tires 1 ; room b ; "
                + "gate a b by k ; person p at a to b coins 7 tact 8 ; hour 9 ;").split(" ");
        StringBuilder text = new StringBuilder();
        int statements = 0;
        for (String token : tokens) {
            text.append(token);
            if (token.equals(";")) {
                statements++;
                c.well(text.toString(), statements);
            } else {
                c.bad(1, text + "^");
                c.bad(1, text + " ^");
                c.bad(1, text + " \n\n ^");
            }
            text.append(' ');
        }
        c.bad(1, " ".repeat(1596) + "room^");
    }

    /** Fault 3: "one that is none of what is asked". */
    private static void noneOfWhatIsAsked(Check c) {
        String ahead = ROOMS + MEN + "person p at a to a coins 1 tact 1;";
        for (String wrong : new String[] {"x", "k", "p", "aa", "abcdef"}) {
            c.bad(3, ahead + "gate ^" + wrong + " b by k;");
            c.bad(3, ahead + "gate a ^" + wrong + " by k;");
            c.bad(3, ahead + "person q at ^" + wrong + " to a coins 1 tact 1;");
            c.bad(3, ahead + "person q at a to ^" + wrong + " coins 1 tact 1;");
        }
        for (String wrong : new String[] {"x", "a", "p", "kk", "abcdef"}) {
            c.bad(3, ahead + "gate a b by ^" + wrong + ";");
        }
        c.bad(3, ahead + "person q at ^q to a coins 1 tact 1;");
        c.bad(3, ahead + "person q at a to ^q coins 1 tact 1;");
    }

    /** Fault 4: "the 7th ( [ not that is open at once .. at it". */
    private static void openAtOnce(Check c) {
        c.well("man m lets [[[[[[all]]]]]] bribe ((((((1)))))) tires 1;", 1);
        c.well("man m lets not not not not not not all bribe min(1,max(2,min(3,max(4,min(5,max(6,7)))))) tires 1;", 1);
        c.bad(4, "man m lets [[[[[[^[all]]]]]]] bribe 1 tires 1;");
        c.bad(4, "man m lets all bribe ((((((^(1))))))) tires 1;");
        c.bad(4, "man m lets not not not not not not ^not all bribe 1 tires 1;");
        c.bad(4, "man m lets all bribe min(min(min(min(min(min(1,min^(2,3)),4),5),6),7),8) tires 1;");
        c.bad(4, "man m lets all bribe max(1,max(1,max(1,max(1,max(1,max(1,max ^(1,2))))))) tires 1;");
        c.bad(4, "man m lets all bribe (((((min(1,^(2)))))))) tires 1;");
        c.bad(4, "man m lets all bribe (((((min(^(1),2))))))) tires 1;");
        c.well("man m lets all bribe ((((min((1),(2)))))) tires 1;", 1);
        c.bad(4, "man m lets [[[(((1+^(2)))) = 1]]] bribe 1 tires 1;");
        c.well("man m lets [[[((1+(2)))=1]]] bribe 1 tires 1;", 1);
        c.bad(4, "man m lets [not [not [not ^[all]]]] bribe 1 tires 1;");
        c.well("man m lets [not [not [not all]]] bribe 1 tires 1;", 1);
        c.bad(4, "man m lets [not [not [not ^(1)<2]]] bribe 1 tires 1;");
        c.bad(4, "man m lets [not [not [not 1<^(2)]]] bribe 1 tires 1;");
        c.bad(4, "man m lets [[[[[[^not all]]]]]] bribe 1 tires 1;");
        c.bad(4, "man m lets not not not not not not ^[");
        c.bad(1, "man m lets [[[[[[all ^[");
        c.bad(1, "man m lets all bribe ((((((^[");
        c.well("man m lets [[[[[[1=1]]]]]] and [[[[[[1=1]]]]]] bribe ((((((1))))))+((((((1))))))*((((((1)))))) tires 1;", 1);
        c.well("man m lets ((((((1))))))<((((((1)))))) bribe 1 tires 1;", 1);
    }

    /** "(not until its FACT ends)". */
    private static void notUntilItsFactEnds(Check c) {
        c.well("man m lets not not not not not not 1<2 and not not not not not not 1<2 or not all bribe 1 tires 1;", 1);
        c.well("man m lets not not not [not not 1<2 and ((1))<2] and [[[[[[all]]]]]] bribe ((((((1)))))) tires 1;", 1);
        c.bad(4, "man m lets not not not not not not ^(1)<2 bribe 1 tires 1;");
        c.bad(4, "man m lets not not not not not not 1<^(2) bribe 1 tires 1;");
        c.bad(4, "man m lets not not not [not (1)<2 and not (1)<(^(2))] bribe 1 tires 1;");
        c.well("man m lets not not not [not (1)<2 and (1)<((2))] bribe 1 tires 1;", 1);
        c.well("man m lets not not not [not 1<2 and not all and ((1))<2] bribe 1 tires 1;", 1);
        c.well("man m lets not not not not not 1<(2) and (((((( 1 ))))))<2 bribe 1 tires 1;", 1);
    }

    /** "FAULTS, the first along the text". */
    private static void firstAlongTheText(Check c) {
        c.bad(2, "hour ^24;room a;room a;!");
        c.bad(3, "room a;room ^a;hour 24;!");
        c.bad(1, "room a^!room a;hour 24;");
        c.bad(2, "hour ^24!");
        c.bad(2, "hour ^24x");
        c.bad(2, "hour ^24");
        c.bad(3, "room a;room ^a5;");
        c.bad(3, "room a;room ^a");
        c.bad(3, ROOMS + MEN + "gate ^x x by x!");
        c.bad(4, "man m lets not not not not not not ^not ! bribe 1 tires 99;");
        c.bad(2, "man m lets all bribe 1 tires ^99;room m;");
        c.bad(5, Full.rooms(10) + "^room ra;hour 24;");
        c.bad(3, Full.rooms(9) + "room ^ra;room x;room y;");
        c.bad(2, "hour 1;".repeat(79) + "hour ^99;!");
    }

    /** A tape of 1600 bytes has a text of 1600 bytes. */
    private static void longestTexts(Check c) {
        String sum = "man m lets not all bribe 1" + "+0".repeat(781) + "+15 tires 1;";
        c.due("length", 1600, sum.length());
        TenthMan x = new TenthMan();
        c.due("1600 bytes", 1, Check.town(x, sum));
        c.bad(1, sum.substring(0, 1599) + "^");
        c.bad(1, sum.substring(0, 1599) + "^!");
        c.bad(1, " ".repeat(1599) + "^!");
        c.well(" ".repeat(1600), 0);
    }
}
