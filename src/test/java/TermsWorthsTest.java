/** The first part of the document's Terms by its own words: numbers, bids, auctions, texts, what is wrong last. */
public final class TermsWorthsTest {
    private static final int NONE = BidMarket.NONE, BAD = BidMarket.BAD, FULL = BidMarket.FULL;
    private static final String HERE = "Terms 1";
    private static final Sentences THE = new Sentences();

    public static void main(String[] args) {
        numbers();
        worths();
        step();
        hasAndPrice();
        gain();
        best();
        second();
        secondOfNone();
        bid();
        bidTakesAway();
        next();
        auction();
        auctionIsBroken();
        scaled();
        scaledFromOwners();
        scaledLast();
        textLimits();
        textSigns();
        textOfEachNumber();
        faultAtTheEnd();
        faultOfANumber();
        faultIsTheFirst();
        faultAheadOfTheEnd();
        clausesAreWhole();
        oneBehindTheOther();
        worthTakesAway();
        wrongAtFirst();
        wrongIsLeft();
        wrongIsTheLatest();
        wrongOfTexts();
        wrongOfBroken();
        wrongOfLack();
        THE.finish(HERE);
    }

    private static void numbers() {
        THE.says(HERE, "PERSONS 0 .. n less 1 and THINGS 0 .. n less 1, n being 1 .. 8 (3 at first)");
        BidMarket x = new BidMarket();
        THE.due("told(0)", x.told(0), 3);
        for (int n = 1; n <= 8; n++) {
            x.size(n);
            for (int number = -1; number <= 9; number++) {
                boolean there = number >= 0 && number < n;
                THE.due("person(" + number + ", 3) of " + n, x.person(number, 3), there ? n : NONE);
                THE.due("thing(" + number + ", 0) of " + n, x.thing(number, 0), there ? 0 : NONE);
                THE.due("worth(" + number + ", 0, 1) of " + n, x.worth(number, 0, 1), there ? 0 : NONE);
                THE.due("worth(0, " + number + ", 1) of " + n, x.worth(0, number, 1),
                        there ? number == 0 ? 1 : 0 : NONE);
            }
        }
        THE.due("size(0)", x.size(0), BAD);
        THE.due("size(9)", x.size(9), BAD);
    }

    private static void worths() {
        THE.says(HERE, "WORTHS: of each THING for each PERSON 0 .. 99, or FORBIDDEN (all 0 at first)");
        BidMarket x = new BidMarket();
        for (int v = -3; v <= 102; v++) {
            int before = (int) x.of(1, 1, 0);
            boolean taken = v >= -1 && v <= 99;
            THE.due("worth(1, 1, " + v + ")", x.worth(1, 1, v), taken ? before : BAD);
            THE.due("of(1, 1, 0)", x.of(1, 1, 0), !taken ? before : v == -1 ? -5 : v);
        }
        THE.due("another", x.of(1, 0, 0), 0);
    }

    private static void step() {
        THE.says(HERE, "STEP: 1 .. 50 (5 at first)");
        BidMarket x = new BidMarket();
        int before = 5;
        for (int n = -2; n <= 53; n++) {
            boolean taken = n >= 1 && n <= 50;
            THE.due("step(" + n + ")", x.step(n), taken ? before : BAD);
            before = taken ? n : before;
            THE.due("told(1)", x.told(1), before);
        }
    }

    private static void hasAndPrice() {
        THE.says(HERE, "Each PERSON has a THING or none (none at first), each THING a PRICE (0 at first)");
        BidMarket x = Check.market(8);
        for (int i = 0; i < 8; i++) {
            THE.due("person(i, 0)", x.person(i, 0), -5);
            THE.due("thing(i, 0)", x.thing(i, 0), 0);
            THE.due("thing(i, 1)", x.thing(i, 1), -5);
        }
        x.auction();
        int owned = 0;
        for (int i = 0; i < 8; i++) {
            THE.due("who has it has it", x.thing(x.person(i, 0), 1), i);
            owned |= 1 << x.person(i, 0);
        }
        THE.due("no two the same", owned, 255);
    }

    private static void gain() {
        for (int n = 1; n <= 8; n++) {
            BidMarket x = Check.market(n, 99);
            THE.says(HERE, "PRICES, STEPS, GAINS are small: a WORTH counts n and 1 times");
            THE.due("99 by " + n, x.of(0, 0, 1), 99 * (n + 1));
            x.worth(0, 0, 1);
            THE.due("1 by " + n, x.of(0, 0, 1), n + 1);
            x.bid();
            int price = x.thing(0, 0);
            THE.says(HERE, "GAIN of a PERSON by a THING that is not FORBIDDEN: n and 1 times its WORTH, less its "
                    + "PRICE");
            THE.due("less its price", x.of(0, 0, 1), n + 1 - price);
            THE.due("price", price, n == 1 ? 105 : n + 1 + 5);
            x.worth(0, 0, -1);
            THE.due("forbidden", x.of(0, 0, 1), BidMarket.NO);
        }
        BidMarket y = States.priced(3000);
        THE.due("far below 0", y.of(0, 0, 1), -3000);
        y.worth(0, 0, 99);
        THE.due("198 less 3000", y.of(0, 0, 1), -2802);
    }

    private static void best() {
        BidMarket x = Check.market(8);
        for (int thing = 0; thing < 8; thing++) {
            THE.says(HERE, "BEST THING of a PERSON: that of greatest GAIN, of several the least number");
            THE.due("of " + (8 - thing) + " alike", x.person(5, 1), thing);
            for (int better = 7; better >= thing; better--) {
                x.worth(5, better, 1 + 7 - better);
                THE.due("better is " + better, x.person(5, 1), better);
            }
            for (int i = thing; i < 8; i++) {
                x.worth(5, i, 0);
            }
            x.worth(5, thing, -1);
        }
        THE.says(HERE, "(none, if all are FORBIDDEN)");
        THE.due("person(5, 1)", x.person(5, 1), -5);
        x.worth(5, 7, 0);
        THE.due("but the last", x.person(5, 1), 7);
        BidMarket y = Check.market(2, 0, -1, 0, -1);
        y.auction();
        THE.says(HERE, "BEST THING of a PERSON: that of greatest GAIN, of several the least number");
        THE.due("a gain of -2100 is the greatest", y.person(0, 1), 0);
        y.worth(0, 1, 0);
        THE.due("0 is greater", y.person(0, 1), 1);
        BidMarket z = Check.market(2, 3, 7, 3, 0);
        z.step(3);
        z.bid();
        THE.due("21 less 15, 9: the other now", z.person(0, 1), 0);
        BidMarket u = Check.market(2, 3, 8, 3, 8);
        u.bid();
        THE.due("24 less 20, 9", u.person(1, 1), 0);
        u.worth(1, 1, -1);
        u.worth(1, 0, -1);
        u.worth(1, 1, 3);
        THE.due("9 less 20 alone", u.person(1, 1), 1);
    }

    private static void second() {
        THE.says(HERE, "SECOND: the greatest GAIN by its other THINGS that aren't FORBIDDEN");
        THE.due("all alike: 0 and 5", new BidMarket().told(7), 5);
        THE.due("40 against 20 and 32", Check.market(3, 10, 5, 8).told(7), 8 + 5);
        THE.due("ahead of the best", Check.market(3, 5, 8, 10).told(7), 8 + 5);
        THE.due("32 is forbidden", Check.market(3, 10, 5, -1).told(7), 20 + 5);
        THE.due("the first is forbidden", Check.market(3, -1, 5, 10).told(7), 20 + 5);
        THE.due("far more than 100 against 0", Check.market(8, 99).told(7), 891 + 5);
        BidMarket x = Check.market(2, 0, -1, 0, -1);
        x.auction();
        x.worth(0, 1, 10);
        THE.due("30 against -2100", x.told(7), 2130 + 5);
        x.worth(0, 1, -1);
        THE.due("-2100 alone", x.told(7), 2100 + 100 + 5);
    }

    private static void secondOfNone() {
        THE.says(HERE, "(none such: GAIN of BEST less 100)");
        for (int n = 1; n <= 8; n++) {
            BidMarket x = Check.market(n);
            for (int thing = 0; thing < n - 1; thing++) {
                x.worth(0, thing, -1);
            }
            for (int worth = 0; worth <= 99; worth += 33) {
                x.worth(0, n - 1, worth);
                THE.due("the last of " + n + " alone, " + worth, x.told(7), 100 + 5);
            }
        }
    }

    private static void bid() {
        THE.says(HERE, "A BID by a PERSON that has none and has a BEST THING: PRICE of that is more by GAIN of BEST "
                + "less SECOND, and STEP");
        for (int step = 1; step <= 50; step++) {
            BidMarket x = Check.market(2, 10, 4);
            x.step(step);
            THE.due("bid()", x.bid(), 0);
            THE.due("30 less 12, and " + step, x.thing(0, 0), 18 + step);
            THE.due("no other price", x.thing(1, 0), 0);
            x.leave(0);
            THE.due("12 less " + step + " against 12: the other", x.bid(), 1);
            THE.due("what it was more by is " + step + ", and " + step, x.thing(1, 0), 2 * step);
            THE.due("no other price", x.thing(0, 0), 18 + step);
        }
    }

    private static void bidTakesAway() {
        THE.says(HERE, "who had it has none; the PERSON has it");
        BidMarket x = Check.market(8);
        for (int i = 0; i < 64; i++) {
            x.worth(i / 8, i % 8, i % 8 == 3 ? 50 : -1);
        }
        for (int i = 0; i < 13; i++) {
            int bidder = i == 0 ? 0 : 1 - (i + 1) % 2;
            THE.due("bid() " + i, x.bid(), 3);
            THE.due("thing(3, 1)", x.thing(3, 1), bidder);
            THE.due("person(bidder, 0)", x.person(bidder, 0), 3);
            THE.due("who had it", x.person(1 - bidder, 0), -5);
            THE.due("told(8)", x.told(8), 1);
        }
    }

    private static void next() {
        THE.says(HERE, "NEXT: the least PERSON that has none and has a BEST THING");
        BidMarket x = Check.market(8);
        for (int i = 0; i < 8; i++) {
            THE.due("told(6)", x.told(6), i);
            for (int thing = 0; thing < 8; thing++) {
                x.worth(i, thing, -1);
            }
        }
        THE.due("nobody has a best thing", x.told(6), -5);
        THE.due("no offer", x.told(7), -5);
        x.worth(7, 7, 0);
        THE.due("the last has", x.told(6), 7);
        x.worth(4, 0, 0);
        THE.due("a lesser one has", x.told(6), 4);
        x.bid();
        THE.due("it has one", x.told(6), 7);
        x.bid();
        THE.due("both have one", x.told(6), -5);
        x.leave(7);
        THE.due("the last has none", x.told(6), 7);
        x.leave(4);
        THE.due("both have none", x.told(6), 4);
    }

    private static void auction() {
        THE.says(HERE, "The AUCTION: NEXT BIDS, again and again, till there is no NEXT");
        Snapshot.Recipe three = x -> Check.become(x, 3, 10, 5, 8, 9, 9, -1, 10, 0, 3);
        BidMarket x = new BidMarket();
        three.follow(x);
        BidMarket y = new BidMarket();
        three.follow(y);
        int bids = 0;
        while (y.told(6) >= 0 && bids < 100) {
            y.bid();
            bids++;
        }
        THE.due("four bids", bids, 4);
        THE.due("auction()", x.auction(), 4);
        for (int i = 0; i < 3; i++) {
            THE.due("price as by single bids", x.thing(i, 0), y.thing(i, 0));
            THE.due("owner as by single bids", x.thing(i, 1), y.thing(i, 1));
        }
        THE.due("no next", x.told(6), -5);
        x.leave(2);
        x.bid();
        THE.due("nobody is left", x.auction(), 0);
    }

    private static void auctionIsBroken() {
        THE.says(HERE, "or a PRICE is above 2000 by a BID (it is BROKEN then, that BID counts)");
        BidMarket x = Check.market(3, 0, -1, -1, 0, -1, -1, 7, 7, 7);
        THE.due("the third would go on", x.auction(), -10 - 20);
        THE.due("that bid counts", x.thing(0, 0), 2100);
        THE.due("who made it has it", x.person(1, 0), 0);
        THE.due("the third has none", x.person(2, 0), -5);
        THE.due("next", x.told(6), 0);
        x.worth(0, 0, -1);
        THE.due("a price that is above already does not break it", x.auction(), 1);
        THE.due("the third has one", x.person(2, 0), 1);
        BidMarket y = States.priced(1880);
        y.step(20);
        THE.due("2000 is not above 2000", y.auction(), 1);
        BidMarket z = States.priced(1881);
        z.step(20);
        THE.due("2001 is above 2000", z.auction(), -11);
        BidMarket u = Check.market(2, -1, 0, -1, 0);
        THE.due("by another thing", u.auction(), -10 - 20);
        THE.due("its price", u.thing(1, 0), 2100);
    }

    private static void scaled() {
        THE.says(HERE, "SCALED: AUCTIONS with STEP 50, then 10, then 2, then 1");
        int[] steps = {50, 10, 2, 1};
        BidMarket x = Check.market(3, 10, 5, 8, 9, 9, -1, 10, 0, 3);
        BidMarket y = Check.market(3, 10, 5, 8, 9, 9, -1, 10, 0, 3);
        int bids = 0;
        for (int step : steps) {
            for (int i = 0; i < 3; i++) {
                y.leave(i);
            }
            y.step(step);
            bids += y.auction();
        }
        THE.due("bids in all", x.scaled(), bids);
        for (int i = 0; i < 3; i++) {
            THE.due("price as by single auctions", x.thing(i, 0), y.thing(i, 0));
            THE.due("owner as by single auctions", x.thing(i, 1), y.thing(i, 1));
        }
        BidMarket z = Check.market(1, 0);
        z.step(7);
        THE.due("four bids", z.scaled(), 4);
        THE.due("150, 110, 102, 101", z.thing(0, 0), 463);
        THE.says(HERE, "STEP is what it was then");
        THE.due("told(1)", z.told(1), 7);
    }

    private static void scaledFromOwners() {
        THE.says(HERE, "ahead of each nobody has any (PRICES stay)");
        BidMarket x = Check.market(2, 0, -1, -1, 0);
        x.bid();
        THE.due("one has one, one has none", x.told(8), 1);
        THE.due("both bid four times", x.scaled(), 8);
        THE.due("105 and 463", x.thing(0, 0), 568);
        THE.due("463", x.thing(1, 0), 463);
        THE.due("each has its own", x.person(1, 0), 1);
        BidMarket y = Check.market(2, 5, -1, -1, -1);
        y.scaled();
        THE.due("who has none bids never", y.told(9), 463);
    }

    private static void scaledLast() {
        THE.says(HERE, "a BROKEN one is the last");
        BidMarket x = States.priced(1645);
        x.step(17);
        THE.due("150, 110, 102", x.scaled(), -13);
        THE.due("no fourth", x.thing(0, 0), 2007);
        THE.due("who made that bid has it", x.person(0, 0), 0);
        THE.says(HERE, "STEP is what it was then");
        THE.due("behind a broken one, too", x.told(1), 17);
    }

    private static void textLimits() {
        THE.says(HERE, "WORTHS are read from THE TEXT (bytes, 100 at most)");
        BidMarket x = new BidMarket();
        for (int i = 1; i <= 100; i++) {
            THE.due("feed, the " + i + ".", x.feed(i % 128), i);
        }
        THE.due("the 101st", x.feed(1), FULL);
        THE.due("count(4)", x.count(4), 100);
        THE.says(HERE, "CLAUSES, 1 to 16, with ; between:");
        for (int clauses = 0; clauses <= 17; clauses++) {
            BidMarket y = new BidMarket();
            StringBuilder text = new StringBuilder();
            for (int i = 0; i < clauses; i++) {
                text.append(i == 0 ? "" : ";").append("c1=").append(10 + i);
            }
            int due = clauses == 0 ? -10 : clauses == 17 ? -10 - 95 : clauses;
            THE.due("read() of " + clauses, Check.readText(y, text.toString()), due);
            THE.due("the last counts", y.of(2, 1, 0), due > 0 ? 9 + clauses : 0);
            THE.due("wrong(1)", y.wrong(1), due > 0 ? -5 : clauses == 0 ? 100 : 116);
        }
    }

    /** Behind each start of a text each of the 128 signs: either it can stand there, or it is the fault. */
    private static void textSigns() {
        String[] starts = {"", "b", "b1", "b1=", "b1=2", "b1=23", "b1!", "b1=2;", "b1!;c", "b1!;c0=", "b1!;c0=4"};
        String[] signs = {"abcdefgh", "01234567", "=!", "0123456789", "0123456789;", ";", ";", "abcdefgh", "01234567",
            "0123456789", "0123456789;"};
        int[] whole = {0, 0, 0, 0, 1, 1, 1, 1, 1, 1, 2};
        String worth = "then = and a WORTH (1 or 2 digits), or ! (it is FORBIDDEN)";
        String[] words = {"a PERSON (a letter a .. h)", "a THING (a digit 0 .. 7)", worth, worth};
        for (int k = 0; k < starts.length; k++) {
            for (int sign = 0; sign < 128; sign++) {
                BidMarket x = new BidMarket();
                x.size(8);
                String text = starts[k] + (char) sign;
                boolean stands = signs[k].indexOf(sign) >= 0;
                boolean ends = stands && (sign == '!' || signs[k].length() > 9);
                int clauses = starts[k].indexOf(';') < 0 ? 1 : 2;
                int due = ends ? clauses : -10 - text.length() + (stands ? 0 : 1);
                if (sign == ';' && stands) {
                    due = -10 - text.length();
                }
                String say = "read() of " + starts[k] + " and " + sign;
                THE.says(HERE, sign == ' ' ? "No blanks" : k < words.length ? words[k]
                        : "The FAULT: the place of the first byte with which none begins so");
                THE.due(say, Check.readText(x, text), due);
                THE.due(say + ", wrong(0)", x.wrong(0), due > 0 ? -5 : 1);
                THE.due(say + ", wrong(1)", x.wrong(1), due > 0 ? -5 : 100 + whole[k]);
            }
        }
        BidMarket y = new BidMarket();
        THE.says(HERE, worth);
        for (int v = 0; v <= 99; v++) {
            THE.due("c1=" + v, Check.readText(y, "c1=" + v), 1);
            THE.due("of(2, 1, 0)", y.of(2, 1, 0), v);
            if (v < 10) {
                Check.readText(y, "c1!");
                THE.due("of(2, 1, 0)", y.of(2, 1, 0), -5);
                THE.due("of(2, 1, 1)", y.of(2, 1, 1), BidMarket.NO);
                THE.due("person(2, 3)", y.person(2, 3), 2);
                THE.due("c1=0" + v, Check.readText(y, "c1=0" + v), 1);
                THE.due("of(2, 1, 0)", y.of(2, 1, 0), v);
            }
        }
    }

    private static void textOfEachNumber() {
        for (int n = 1; n <= 8; n++) {
            BidMarket x = Check.market(n);
            for (int i = 0; i < 64; i++) {
                int person = i / 8;
                int thing = i % 8;
                boolean there = person < n && thing < n;
                int due = there ? 1 : person >= n ? -10 : -11;
                String text = "" + (char) ('a' + person) + (char) ('0' + thing) + "=" + (10 + i);
                THE.says(HERE, "or of the letter, the digit, of a PERSON, a THING that there isn't");
                THE.due("read() of " + text + " by " + n, Check.readText(x, text), due);
                THE.due("of it", x.of(person, thing, 0), there ? 10 + i : BidMarket.NO);
                if (!there) {
                    THE.says(HERE, person >= n ? "2 no such PERSON" : "3 no such THING");
                    THE.due("wrong(0) by " + text, x.wrong(0), person >= n ? 2 : 3);
                    THE.due("wrong(1) by " + text, x.wrong(1), 100);
                    THE.due("wrong(2) by " + text, x.wrong(2), -5);
                }
            }
        }
    }

    private static void faultAtTheEnd() {
        String[] early = {"", "a", "a0", "a0=", "a0=1;", "a0!;b", "a0=12;b1", "a0!;b1=", "a0!;b1!;"};
        int[] whole = {0, 0, 0, 0, 1, 1, 1, 1, 2};
        BidMarket x = new BidMarket();
        for (int i = 0; i < early.length; i++) {
            THE.says(HERE, "(the end of THE TEXT, if it ends too early)");
            THE.due("read() of " + early[i], Check.readText(x, early[i]), -10 - early[i].length());
            THE.says(HERE, "1 a byte that can't stand there (or it ends too early)");
            THE.due("wrong(0)", x.wrong(0), 1);
            THE.due("wrong(1)", x.wrong(1), 100 + whole[i]);
            THE.due("wrong(2)", x.wrong(2), -5);
        }
    }

    private static void faultOfANumber() {
        THE.says(HERE, "or of the letter, the digit, of a PERSON, a THING that there isn't");
        BidMarket x = new BidMarket();
        THE.due("the first of two faults", Check.readText(x, "d0=1;?"), -10);
        THE.due("the first of two faults", Check.readText(x, "a0?;d0=1"), -12);
        THE.due("the person ahead of the thing", Check.readText(x, "d3=1"), -10);
        THE.due("a person that never is", Check.readText(x, "i3=1"), -10);
        THE.due("its kind", x.wrong(0), 1);
        THE.due("behind two", Check.readText(x, "a0=1;b2!;c3"), -10 - 11 + 1);
        THE.due("wrong(1)", x.wrong(1), 102);
        Check.feedText(x, "c2=5");
        x.size(2);
        THE.due("there is none when it is read", x.read(), -10);
        THE.due("wrong(0)", x.wrong(0), 2);
    }

    /** Two faults in one text, each ahead of each: the first from the left is the FAULT, of whichever kind it is. */
    private static void faultIsTheFirst() {
        String[] pieces = {"?", ";", "A0=1", "i0=1", "d0=1", "d7=1", "d9=1", "a3=1", "a8=1", "a0?", "a0=?", "a0=1?",
            "a0=123", "a0!1"};
        int[] kinds = {1, 1, 1, 1, 2, 2, 2, 3, 1, 1, 1, 1, 1, 1};
        int[] places = {0, 0, 0, 0, 0, 0, 0, 1, 1, 2, 3, 4, 5, 3};
        int[] whole = {0, 0, 0, 0, 0, 0, 0, 0, 0, 0, 0, 1, 1, 1};
        for (int i = 0; i < pieces.length; i++) {
            for (String later : pieces) {
                for (int ahead = 0; ahead <= 2; ahead++) {
                    BidMarket x = new BidMarket();
                    String text = "b2=34;".repeat(ahead) + pieces[i] + ";" + later;
                    THE.says(HERE, kinds[i] == 1 ? "The FAULT: the place of the first byte with which none begins so"
                            : "or of the letter, the digit, of a PERSON, a THING that there isn't");
                    THE.due("read() of " + text, Check.readText(x, text), -10 - 6 * ahead - places[i]);
                    THE.due("wrong(0) by " + text, x.wrong(0), kinds[i]);
                    THE.says(HERE, "(each with 100 and how many CLAUSES are whole ahead of the FAULT as CAUSE)");
                    THE.due("wrong(1) by " + text, x.wrong(1), 100 + ahead + whole[i]);
                    THE.due("wrong(2) by " + text, x.wrong(2), -5);
                    THE.due("no worth by " + text, x.of(1, 2, 0), 0);
                }
            }
        }
    }

    /** A text that ends too early behind a number that isn't there: that number is ahead of the end. */
    private static void faultAheadOfTheEnd() {
        String[] numbers = {"d0=12", "d3=12", "a3=12"};
        int[] places = {0, 0, 1};
        for (int k = 0; k < numbers.length; k++) {
            for (int length = places[k] + 1; length <= 5; length++) {
                BidMarket x = new BidMarket();
                String text = "c1!;" + numbers[k].substring(0, length);
                THE.says(HERE, "or of the letter, the digit, of a PERSON, a THING that there isn't");
                THE.due("read() of " + text, Check.readText(x, text), -10 - 4 - places[k]);
                THE.says(HERE, k == 2 ? "3 no such THING" : "2 no such PERSON");
                THE.due("wrong(0) by " + text, x.wrong(0), k == 2 ? 3 : 2);
                THE.due("wrong(1) by " + text, x.wrong(1), 101);
            }
        }
    }

    /** Behind so many CLAUSES each sign that can't stand there: the last CLAUSE is whole without a ; behind it. */
    private static void clausesAreWhole() {
        String[] last = {"a0=1", "a0=12", "a0!"};
        for (String clause : last) {
            for (int clauses = 1; clauses <= 16; clauses++) {
                String text = "b2=3;".repeat(clauses - 1) + clause;
                for (int sign = 0; sign < 128; sign++) {
                    boolean goesOn = clause.equals("a0=1") && sign >= '0' && sign <= '9';
                    boolean between = sign == ';' && clauses < 16;
                    if (!goesOn) {
                        BidMarket x = new BidMarket();
                        THE.says(HERE, "The FAULT: the place of the first byte with which none begins so");
                        THE.due("read() of " + text + " and " + sign, Check.readText(x, text + (char) sign),
                                -10 - text.length() - (between ? 1 : 0));
                        THE.says(HERE, "(each with 100 and how many CLAUSES are whole ahead of the FAULT as CAUSE)");
                        THE.due("wrong(1)", x.wrong(1), 100 + clauses);
                    }
                }
            }
        }
    }

    private static void oneBehindTheOther() {
        THE.says(HERE, "If there is none, they become so, one behind the other");
        BidMarket x = new BidMarket();
        THE.due("read()", Check.readText(x, "a0=1;a0=2;a1!;a0!;a1=3;b0!;b0=44"), 7);
        THE.due("the last of three", x.of(0, 0, 0), -5);
        THE.due("the last of two", x.of(0, 1, 0), 3);
        THE.due("the last of two", x.of(1, 0, 0), 44);
        THE.due("by a fault none", Check.readText(x, "a0=9;a1=9;a2=9;a3=9"), -10 - 16);
        THE.due("of(0, 0, 0)", x.of(0, 0, 0), -5);
        THE.due("of(0, 1, 0)", x.of(0, 1, 0), 3);
        THE.due("of(0, 2, 0)", x.of(0, 2, 0), 0);
    }

    private static void worthTakesAway() {
        THE.says(HERE, "As a WORTH becomes another (or the same again, or FORBIDDEN), its PERSON has none; PRICES "
                + "stay");
        String[] texts = {"c1=7", "c1=0", "c1!", "c0!;c0=0", "c2=99"};
        for (int i = 0; i < 2 * texts.length; i++) {
            BidMarket x = new BidMarket();
            x.auction();
            int prices = x.told(9);
            THE.due("each has one", x.told(8), 3);
            int had = x.person(2, 0);
            if (i < texts.length) {
                Check.readText(x, texts[i]);
            } else {
                x.worth(2, i % 3, i == 5 ? -1 : i == 6 ? 0 : 99);
            }
            THE.due("it has none", x.person(2, 0), -5);
            THE.due("its thing is nobody's", x.thing(had, 1), -5);
            THE.due("the others have theirs", x.told(8), 2);
            THE.due("prices stay", x.told(9), prices);
        }
    }

    private static void wrongAtFirst() {
        THE.says(HERE, "WRONG last (none at first;");
        BidMarket x = new BidMarket();
        for (int k = 0; k <= 3; k++) {
            THE.due("wrong(" + k + ")", x.wrong(k), -5);
        }
    }

    private static void wrongIsLeft() {
        THE.says(HERE, "size(), undo(), what is asked, and what goes well leave it)");
        BidMarket x = Check.market(3, 1, 1, 1, 1, 1, 1, -1, -1, -1);
        x.image();
        x.auction();
        long[] done = {x.wrong(0), x.size(4), x.worth(0, 0, 5), x.step(9), x.auction(), x.scaled(), x.fresh(), x.bid(),
            x.leave(0), Check.readText(x, "a0=4"), x.see(0, 0), x.plan(0, 0), x.book(0, 0), x.image(), x.undo(),
            x.size(2), x.tape(0, 3, 5), x.item(0, 0, 7), x.shift(0, 0, 0, 1, 2), x.feed('d')};
        long[] due = {5, 3, 0, 5, 4, done[5], 4, 0, 0, 1, 1, 1, 1, 4, 4, 4, 1, 1, 2, 1};
        for (int i = 0; i < done.length; i++) {
            THE.due("what went well, " + i, done[i], due[i]);
        }
        x.worth(0, 1, -1);
        x.worth(1, 1, -1);
        THE.due("an auction that would be broken is asked", x.fits(0, 0, 0), 10);
        THE.due("auctions that would be broken are asked", x.odds(0, 1) > 0 ? 1 : 0, 1);
        THE.due("refused", x.worth(9, 0, 0) + x.size(9) + x.leave(0) + x.feed(128), -1 - 2 - 3 - 2);
        THE.due("asked", x.told(3) + x.ends(0) + x.looked() + x.judge(0, 0) + x.peek(0, 0), -5 + 0 - 5 + 0 + 7);
        THE.due("wrong(0)", x.wrong(0), 5);
        THE.due("wrong(1)", x.wrong(1), 202);
        THE.due("wrong(2)", x.wrong(2), 301);
    }

    private static void wrongIsTheLatest() {
        BidMarket x = Check.market(2, 0, -1, 0, -1);
        THE.says(HERE, "of the latest text with a FAULT,");
        Check.readText(x, "a0=1;b0=1;c0");
        THE.due("by a text", x.wrong(0), 2);
        THE.due("by a text", x.wrong(1), 102);
        Check.readText(x, "a2");
        THE.due("by a later text", x.wrong(0), 3);
        THE.due("by a later text", x.wrong(1), 100);
        THE.says(HERE, "or AUCTION (SCALED, too) that was BROKEN, or left a PERSON with none:");
        x.auction();
        THE.due("by an auction", x.wrong(0), 4);
        THE.due("by an auction", x.wrong(1), 201);
        x.worth(1, 0, -1);
        x.fresh();
        x.scaled();
        THE.due("by what is scaled", x.wrong(0), 5);
        THE.due("by what is scaled", x.wrong(1), 201);
        THE.due("by what is scaled", x.wrong(2), 301);
        x.worth(1, 0, 0);
        x.scaled();
        THE.due("by what is scaled and broken", x.wrong(0), 4);
        THE.due("the cause of the cause is gone", x.wrong(2), -5);
        THE.says(HERE, "of the latest text with a FAULT,");
        x.read();
        THE.due("by a text again", x.wrong(0), 1);
        THE.due("by a text again", x.wrong(1), 100);
    }

    private static void wrongOfTexts() {
        BidMarket x = new BidMarket();
        String[] ends = {"?", "d", "a3"};
        String[] kinds = {"1 a byte that can't stand there (or it ends too early)", "2 no such PERSON",
            "3 no such THING"};
        for (int clauses = 0; clauses <= 15; clauses++) {
            String whole = "b2=34;".repeat(clauses);
            for (int k = 0; k < 3; k++) {
                THE.due("read()", Check.readText(x, whole + ends[k]), -10 - whole.length() - (k == 2 ? 1 : 0));
                THE.says(HERE, kinds[k]);
                THE.due("wrong(0)", x.wrong(0), k + 1);
                THE.says(HERE, "(each with 100 and how many CLAUSES are whole ahead of the FAULT as CAUSE)");
                THE.due("wrong(1)", x.wrong(1), 100 + clauses);
                THE.due("wrong(2)", x.wrong(2), -5);
            }
        }
    }

    private static void wrongOfBroken() {
        THE.says(HERE, "4 it was BROKEN (with 200 and the PERSON whose BID it was as CAUSE)");
        for (int last = 0; last < 8; last++) {
            BidMarket x = Check.market(8);
            for (int i = 0; i < 64; i++) {
                x.worth(i / 8, i % 8, i / 8 == last && i % 8 == 2 ? 0 : -1);
            }
            x.step(50);
            for (int i = 0; i < 13; i++) {
                x.bid();
                x.leave(last);
            }
            THE.due("1950 and 150", x.auction(), -11);
            THE.due("wrong(0)", x.wrong(0), 4);
            THE.due("wrong(1)", x.wrong(1), 200 + last);
            THE.due("wrong(2)", x.wrong(2), -5);
        }
    }

    private static void wrongOfLack() {
        THE.says(HERE, "5 who has none has no BEST THING (with 200 and the least such as CAUSE, and this with 300 and "
                + "how many such there are)");
        for (int set = 1; set < 256; set++) {
            BidMarket x = Check.market(8);
            for (int i = 0; i < 64; i++) {
                boolean lacks = (set >> i / 8 & 1) == 1;
                x.worth(i / 8, i % 8, lacks || (i / 8 + 3) % 8 != i % 8 ? -1 : 3);
            }
            THE.due("auction()", x.auction(), 8 - Integer.bitCount(set));
            THE.due("wrong(0)", x.wrong(0), 5);
            THE.due("wrong(1)", x.wrong(1), 200 + Integer.numberOfTrailingZeros(set));
            THE.due("wrong(2)", x.wrong(2), 300 + Integer.bitCount(set));
        }
    }
}
