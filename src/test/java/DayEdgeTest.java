/**
 * Part 3 of the document and promises 10 to 13, sentence by sentence, at the edges that they name.
 * The rows of a day: how, table, from, till, coin, waited.
 */
public final class DayEdgeTest {
    private static final Check CHECK = new Check();
    private static final String AWAY_AT_ONCE = "1 -9 -9 -9 0 0";
    private static final String WENT_ON = "2 -9 -9 -9 0 0";

    public static void main(String[] args) {
        firstAndLastMinute();
        timeIsOver();
        goAheadOfRain();
        rainAheadOfThoseWhoWait();
        thoseWhoWaitAheadOfThoseWhoCome();
        rainInTheFirstMinute();
        rainInTheLastMinute();
        rainInTheMinuteInWhichOneComes();
        rainAtTwoTables();
        rainAtSixTables();
        rainByNumber();
        rainByRule();
        whatWasLeftOfHisTime();
        elseGoes();
        shutFromThenOn();
        byWhenTheyCameThenByNumber();
        whoWaitsDoesNotBlock();
        patienceMinutesAgoOrMore();
        patienceNought();
        longestPatience();
        thoseWhoComeByNumber();
        fewerThanLure();
        onIsAheadOfSitting();
        othersWaitAsHeSitsDown();
        seatsForAll();
        ruleNought();
        ruleOne();
        ruleTwo();
        notJoined();
        joiningWithOneTable();
        joiningWithTheLastTwo();
        joiningBesideOneAnother();
        joiningTheLeast();
        joiningOnlyIfThereIsNone();
        bothAreTaken();
        dayRefused();
        takenRefused();
        takenAsAMinuteEnds();
        noGroups();
        oneGroup();
        eightGroups();
        worths();
        worthRefused();
        CHECK.end();
    }

    private static CafeTables cafe(String text, int rule, int patience, boolean joining, int rain) {
        CafeTables x = Check.cafe(text);
        x.rule(rule);
        x.patience(patience);
        x.joining(joining);
        x.rain(rain);
        return x;
    }

    private static void guest(CafeTables x, int size, int comes, int stay) {
        x.group(0, size, comes, stay, 2, 0);
    }

    private static void firstAndLastMinute() {
        CHECK.says("A DAY goes minute by minute, 0 .. 399");
        CafeTables x = Check.cafe("i1;i1");
        guest(x, 1, 0, 1);
        guest(x, 1, 99, 60);
        CHECK.dueDay(x, 0, "0 0 0 1 5 0");
        CHECK.dueDay(x, 1, "0 0 99 159 11 0");
        CHECK.due("as minute 0 ends", x.taken(0, 0), 1);
        CHECK.due("as minute 1 ends", x.taken(1, 0), 0);
        CHECK.due("as minute 158 ends", x.taken(158, 0), 1);
        CHECK.due("as minute 159 ends", x.taken(159, 0), 0);
        CHECK.due("as minute 399 ends", x.taken(399, 0), 0);
        CHECK.says("the longest that anybody can sit ends within the DAY");
        x = cafe("i2;i2", 0, 30, false, -9);
        x.group(1, 2, 69, 30, 0, 0);
        x.group(1, 2, 70, 30, 0, 0);
        x.group(2, 2, 99, 60, 0, 0);
        x.group(2, 2, 99, 60, 0, 0);
        CHECK.dueDay(x, 2, "0 0 129 262 22 30");
        CHECK.due("he sits", x.taken(261, 0), 1);
        CHECK.due("he goes", x.taken(262, 0), 0);
    }

    private static void timeIsOver() {
        CHECK.says("those whose time is over go: in the minute in which it is over");
        CafeTables x = Check.cafe("i1");
        guest(x, 1, 5, 10);
        guest(x, 1, 14, 10);
        guest(x, 1, 15, 10);
        CHECK.dueDay(x, 0, "0 0 5 15 6 0");
        CHECK.dueDay(x, 1, AWAY_AT_ONCE);
        CHECK.dueDay(x, 2, "0 0 15 25 6 0");
        CHECK.due("as 14 ends", x.taken(14, 0), 1);
        CHECK.due("as 24 ends", x.taken(24, 0), 1);
        CHECK.due("as 25 ends", x.taken(25, 0), 0);
    }

    private static void goAheadOfRain() {
        CHECK.says("In a minute, in order: those whose time is over go; if RAIN begins ..");
        CafeTables x = cafe("i2;s2", 0, 0, false, 10);
        guest(x, 2, 0, 10);
        guest(x, 2, 0, 30);
        CHECK.dueDay(x, 1, "0 1 0 30 16 0");
        CHECK.due("he has the table inside", x.taken(10, 0), 1);
        CHECK.due("till his time is over", x.taken(29, 0), 1);
        x.rain(9);
        CHECK.dueDay(x, 1, "0 1 0 9 10 0");
        CHECK.says("whose time is over as RAIN begins goes, and sits down nowhere");
        x = cafe("s2;i2", 0, 0, false, 10);
        guest(x, 2, 0, 10);
        CHECK.dueDay(x, 0, "0 0 0 10 12 0");
        CHECK.due("nobody inside", x.taken(10, 0), 0);
    }

    private static void rainAheadOfThoseWhoWait() {
        CHECK.says("RAIN .. sits down elsewhere; those who WAIT ..: in that order");
        CafeTables x = cafe("i2;s2", 0, 30, false, 10);
        guest(x, 2, 0, 10);
        guest(x, 2, 0, 60);
        guest(x, 2, 1, 5);
        CHECK.dueDay(x, 1, "0 1 0 60 22 0");
        CHECK.dueDay(x, 2, "1 -9 -9 -9 0 30");
        CHECK.says("what he leaves who gets up at two TABLES is free for those who WAIT");
        x = cafe("s2;i2", 0, 30, true, 10);
        guest(x, 4, 0, 60);
        guest(x, 2, 1, 5);
        CHECK.dueDay(x, 0, "0 0 0 10 24 0");
        CHECK.dueDay(x, 1, "0 1 10 15 10 9");
    }

    private static void thoseWhoWaitAheadOfThoseWhoCome() {
        CHECK.says("those who WAIT ..; those who come: in that order");
        CafeTables x = cafe("i2", 0, 30, false, -9);
        guest(x, 1, 10, 5);
        guest(x, 2, 0, 10);
        guest(x, 1, 9, 5);
        CHECK.dueDay(x, 2, "0 0 10 15 5 1");
        CHECK.dueDay(x, 0, "0 0 15 20 5 5");
        CHECK.says("who goes AWAY in a minute does so ahead of those who come");
        x = cafe("i2;i1", 0, 5, false, -9);
        guest(x, 2, 0, 60);
        guest(x, 2, 1, 60);
        x.group(2, 1, 6, 60, 0, 0);
        CHECK.dueDay(x, 1, "1 -9 -9 -9 0 5");
        CHECK.due("nobody waits as he sits down", x.day(2, 3), 126);
    }

    private static void rainInTheFirstMinute() {
        CHECK.says("RAIN in minute 0: nobody has sat in the SUN");
        CafeTables x = cafe("s1;s2;i2", 0, 0, false, 0);
        guest(x, 1, 0, 10);
        guest(x, 1, 0, 10);
        CHECK.dueDay(x, 0, "0 2 0 10 6 0");
        CHECK.dueDay(x, 1, AWAY_AT_ONCE);
        CHECK.due("taken", x.taken(0, 0), 1);
        x = cafe("s6", 0, 0, true, 0);
        guest(x, 1, 0, 10);
        guest(x, 1, 99, 10);
        CHECK.dueDay(x, 0, AWAY_AT_ONCE);
        CHECK.dueDay(x, 1, AWAY_AT_ONCE);
        CHECK.due("coin", x.coin(), 0);
    }

    private static void rainInTheLastMinute() {
        CHECK.says("RAIN in minute 399: all is as without it");
        CafeTables x = cafe("s2;i2", 0, 30, true, 399);
        CafeTables dry = cafe("s2;i2", 0, 30, true, -9);
        for (int g = 0; g < 8; g++) {
            x.group(g % 3, 1 + g % 4, 13 * g, 20, 0, 0);
            dry.group(g % 3, 1 + g % 4, 13 * g, 20, 0, 0);
        }
        for (int g = 0; g < 8; g++) {
            CHECK.dueDay(x, g, Check.dayOf(dry, g));
        }
        CHECK.due("coin", x.coin(), dry.coin());
        CHECK.due("taken", x.taken(399, 0), 0);
    }

    private static void rainInTheMinuteInWhichOneComes() {
        CHECK.says("TABLES in the SUN are shut from then on: in that very minute");
        CafeTables x = cafe("s1", 0, 0, false, 50);
        guest(x, 1, 49, 1);
        guest(x, 1, 50, 1);
        CHECK.dueDay(x, 0, "0 0 49 50 5 0");
        CHECK.dueDay(x, 1, AWAY_AT_ONCE);
        x.rain(51);
        CHECK.dueDay(x, 1, "0 0 50 51 5 0");
    }

    private static void rainAtTwoTables() {
        CHECK.says("all who sit in the SUN (at two TABLES: at one there) get up");
        String[] texts = {"s2;i2", "i2;s2", "s2;s2", "i2;w2"};
        for (int k = 0; k < texts.length; k++) {
            CafeTables x = cafe(texts[k], 0, 0, true, 15);
            guest(x, 4, 0, 60);
            CHECK.dueDay(x, 0, k == 3 ? "0 0 0 60 44 0" : "0 0 0 15 24 0");
            CHECK.due(texts[k] + " taken before", x.taken(14, 0), 2);
            CHECK.due(texts[k] + " taken then", x.taken(15, 0), k == 3 ? 2 : 0);
        }
        CHECK.says("who gets up at two TABLES may sit at the dry one of them again, with another");
        CafeTables x = cafe("s2;i2;i2", 0, 0, true, 15);
        guest(x, 4, 0, 60);
        CHECK.dueDay(x, 0, "0 0 0 60 44 0");
        CHECK.due("two again", x.taken(15, 0), 2);
        CHECK.due("till his time is over", x.taken(59, 0), 2);
        CHECK.due("both are left", x.taken(60, 0), 0);
        CHECK.says("who sits inside stays there");
        x = cafe("i2;s2", 0, 0, false, 15);
        guest(x, 2, 0, 60);
        CHECK.dueDay(x, 0, "0 0 0 60 22 0");
    }

    private static void rainAtSixTables() {
        CHECK.says("all who sit in the SUN get up: of six TABLES, the first and the last");
        CafeTables x = cafe("s1;i1;i1;i1;i1;s1", 0, 0, false, 15);
        for (int g = 0; g < 6; g++) {
            guest(x, 1, 0, g == 2 ? 10 : 60);
        }
        CHECK.dueDay(x, 0, "0 0 0 60 11 0");
        CHECK.dueDay(x, 5, "0 5 0 15 6 0");
        CHECK.due("taken before", x.taken(14, 0), 5);
        CHECK.due("taken then", x.taken(15, 0), 4);
        x = cafe("s1;s1;s1;s1;s1;s1", 0, 0, false, 15);
        for (int g = 0; g < 8; g++) {
            guest(x, 1, 0, 60);
        }
        CHECK.due("all of six", x.taken(14, 0), 6);
        CHECK.due("none of six", x.taken(15, 0), 0);
        CHECK.due("coin", x.coin(), 36);
    }

    private static void rainByNumber() {
        CHECK.says("each of them, by number, sits down elsewhere");
        CafeTables x = cafe("s1;s2;i2", 0, 0, false, 30);
        guest(x, 2, 20, 40);
        guest(x, 1, 0, 60);
        CHECK.dueDay(x, 0, "0 1 20 60 18 0");
        CHECK.dueDay(x, 1, "0 0 0 30 8 0");
        CHECK.says("all get up ahead of the first who sits down");
        x = cafe("s2;i2;w2;s2", 0, 0, true, 30);
        guest(x, 4, 0, 60);
        guest(x, 4, 0, 60);
        // 0 has tables 0 and 1, 1 has 2 and 3; both get up, and 0 finds 1 and 2 free together.
        CHECK.dueDay(x, 0, "0 0 0 60 44 0");
        CHECK.dueDay(x, 1, "0 2 0 30 32 0");
    }

    private static void rainByRule() {
        CHECK.says("sits down elsewhere: by the RULE that is told");
        // One is at the window till 4; so the next sits in the sun by each rule, and in the rain goes to 1, 2 or 3.
        int[][] left = {{2, 3}, {3, 1}, {2, 1}};
        for (int v = 0; v <= 2; v++) {
            CafeTables x = cafe("s3;i6;i4;w5", v, 0, false, 5);
            x.group(0, 5, 0, 4, 1, 0);
            x.group(0, 3, 1, 60, 1, 0);
            x.group(0, 1, 6, 60, 2, 0);
            x.group(0, 1, 6, 60, 2, 0);
            CHECK.dueDay(x, 1, "0 0 1 61 33 0");
            CHECK.due("left for the next, rule " + v, x.day(2, 1), left[v][0]);
            CHECK.due("left for the last, rule " + v, x.day(3, 1), left[v][1]);
        }
        CHECK.says("who WANTS the SUN sits, in the RAIN, as by RULE 1");
        CafeTables x = cafe("s3;i6;i4", 2, 0, false, 5);
        x.group(0, 3, 0, 60, 0, 0);
        x.group(0, 5, 6, 10, 0, 0);
        CHECK.dueDay(x, 0, "0 0 0 60 33 0");
        CHECK.dueDay(x, 1, "0 1 6 16 30 0");
    }

    private static void whatWasLeftOfHisTime() {
        CHECK.says("sits down elsewhere for what was left of his time");
        for (int rain = 1; rain <= 60; rain++) {
            CafeTables x = cafe("s1;i1", 0, 0, false, rain);
            guest(x, 1, 0, 60);
            CHECK.dueDay(x, 0, "0 0 0 60 11 0");
            CHECK.due("rain " + rain, x.taken(59, 0), 1);
            CHECK.due("rain " + rain, x.taken(60, 0), 0);
        }
        CHECK.says("a LOOKED at one sits no longer, though somebody WAITS as he moves");
        CafeTables x = cafe("s1;i1;w6", 0, 30, false, 10);
        x.group(2, 1, 0, 45, 0, 0);
        guest(x, 6, 1, 60);
        guest(x, 6, 2, 60);
        CHECK.dueDay(x, 0, "0 0 0 90 9 0");
        CHECK.due("one waits", x.taken(10, 1), 1);
        CHECK.says("a LOOKED at one keeps the ninth that he had");
        x = cafe("s1;i1;w6", 0, 30, false, 10);
        guest(x, 6, 0, 60);
        guest(x, 6, 0, 60);
        x.group(2, 1, 1, 45, 0, 0);
        CHECK.dueDay(x, 2, "0 0 1 101 10 0");
        x.patience(5);
        CHECK.dueDay(x, 2, "0 0 1 101 10 0");
    }

    private static void elseGoes() {
        CHECK.says("if he can, else goes: he does not WAIT");
        CafeTables x = cafe("s2;i1", 0, 30, false, 10);
        guest(x, 2, 0, 60);
        CHECK.dueDay(x, 0, "0 0 0 10 12 0");
        CHECK.due("nobody waits", x.taken(10, 1), 0);
        CHECK.due("nobody sits", x.taken(10, 0), 0);
        CHECK.due("coin", x.coin(), 12);
    }

    private static void shutFromThenOn() {
        CHECK.says("TABLES in the SUN are shut from then on");
        CafeTables x = cafe("s2;i2;s2", 0, 0, true, 10);
        guest(x, 2, 11, 5);
        guest(x, 2, 12, 5);
        guest(x, 4, 20, 5);
        guest(x, 1, 99, 5);
        CHECK.dueDay(x, 0, "0 1 11 16 10 0");
        CHECK.dueDay(x, 1, AWAY_AT_ONCE);
        CHECK.dueDay(x, 2, AWAY_AT_ONCE);
        CHECK.dueDay(x, 3, "0 1 99 104 5 0");
        CHECK.says("a TABLE that is shut is not taken");
        x = cafe("s2;i2", 0, 0, false, 0);
        x.group(0, 1, 5, 5, 0, 1);
        CHECK.dueDay(x, 0, WENT_ON);
        CHECK.due("taken", x.taken(5, 0), 0);
    }

    private static void byWhenTheyCameThenByNumber() {
        CHECK.says("those who WAIT, by when they came, then by number");
        CafeTables x = cafe("i1", 0, 30, false, -9);
        guest(x, 1, 3, 5);
        guest(x, 1, 2, 5);
        guest(x, 1, 2, 5);
        guest(x, 1, 1, 5);
        guest(x, 1, 0, 10);
        CHECK.dueDay(x, 3, "0 0 10 15 5 9");
        CHECK.dueDay(x, 1, "0 0 15 20 5 13");
        CHECK.dueDay(x, 2, "0 0 20 25 5 18");
        CHECK.dueDay(x, 0, "0 0 25 30 5 22");
    }

    private static void whoWaitsDoesNotBlock() {
        CHECK.says("sit down if they can: who can't does not keep those behind him");
        CafeTables x = cafe("i2;i1", 0, 30, false, -9);
        guest(x, 2, 0, 40);
        guest(x, 1, 0, 10);
        guest(x, 2, 1, 5);
        guest(x, 1, 2, 5);
        guest(x, 1, 20, 5);
        CHECK.dueDay(x, 3, "0 1 10 15 5 8");
        CHECK.dueDay(x, 2, "1 -9 -9 -9 0 30");
        CHECK.says("those who come sit down if they can, though others WAIT");
        CHECK.dueDay(x, 4, "0 1 20 25 5 0");
    }

    private static void patienceMinutesAgoOrMore() {
        CHECK.says("sit down if they can, else go AWAY, if they came PATIENCE minutes ago or more");
        for (int v = 1; v <= 30; v++) {
            CafeTables x = cafe("i1", 0, v, false, -9);
            guest(x, 1, 0, 20);
            guest(x, 1, 10, 5);
            CHECK.dueDay(x, 1, v < 10 ? "1 -9 -9 -9 0 " + v : "0 0 20 25 5 10");
            CHECK.due("he waits, patience " + v, x.taken(9 + Math.min(v, 10), 1), 1);
            CHECK.due("no longer, patience " + v, x.taken(10 + Math.min(v, 10), 1), 0);
        }
    }

    private static void patienceNought() {
        CHECK.says("else WAITS (with PATIENCE above 0), or goes AWAY");
        CafeTables x = Check.cafe("i1");
        guest(x, 2, 7, 20);
        CHECK.dueDay(x, 0, AWAY_AT_ONCE);
        CHECK.due("patience 0", x.taken(7, 1), 0);
        x.patience(1);
        CHECK.dueDay(x, 0, "1 -9 -9 -9 0 1");
        CHECK.due("patience 1", x.taken(7, 1), 1);
        CHECK.due("patience 1", x.taken(8, 1), 0);
        x.patience(0);
        CHECK.dueDay(x, 0, AWAY_AT_ONCE);
    }

    private static void longestPatience() {
        CHECK.says("PATIENCE 30, of one who comes in minute 99");
        CafeTables x = cafe("i1", 0, 30, false, -9);
        guest(x, 2, 99, 20);
        CHECK.dueDay(x, 0, "1 -9 -9 -9 0 30");
        CHECK.due("as 128 ends", x.taken(128, 1), 1);
        CHECK.due("as 129 ends", x.taken(129, 1), 0);
    }

    private static void thoseWhoComeByNumber() {
        CHECK.says("those who come, by number");
        CafeTables x = Check.cafe("i1;i1");
        for (int g = 0; g < 3; g++) {
            guest(x, 1, 50, 5 + g);
        }
        CHECK.dueDay(x, 0, "0 0 50 55 5 0");
        CHECK.dueDay(x, 1, "0 1 50 56 5 0");
        CHECK.dueDay(x, 2, AWAY_AT_ONCE);
    }

    private static void fewerThanLure() {
        CHECK.says("who sees fewer than LURE TABLES taken goes ON");
        for (int taken = 0; taken <= 6; taken++) {
            for (int lure = 0; lure <= 6; lure++) {
                CafeTables x = Check.cafe("i1;i1;i1;i1;i1;i1");
                for (int g = 0; g < taken; g++) {
                    guest(x, 1, 0, 20);
                }
                x.group(0, 1, 10, 5, 0, lure);
                int how = taken < lure ? 2 : taken == 6 ? 1 : 0;
                CHECK.due(taken + " taken, lure " + lure, x.day(taken, 0), how);
            }
        }
        CHECK.says("LURE: TABLES are counted, not GROUPS: two that are joined are two");
        CafeTables x = cafe("i1;i1;i1", 0, 0, true, -9);
        guest(x, 2, 0, 20);
        x.group(0, 1, 10, 5, 0, 2);
        x.group(0, 1, 19, 5, 0, 3);
        x.group(0, 1, 12, 5, 0, 3);
        CHECK.dueDay(x, 1, "0 2 10 15 5 0");
        CHECK.dueDay(x, 3, AWAY_AT_ONCE);
        CHECK.dueDay(x, 2, WENT_ON);
        CHECK.says("LURE: those who have gone, or only WAIT, are not seen");
        x = cafe("i1;i1", 0, 30, false, -9);
        guest(x, 1, 0, 10);
        guest(x, 2, 0, 10);
        x.group(0, 1, 9, 5, 0, 2);
        x.group(0, 1, 10, 5, 0, 1);
        x.group(0, 1, 9, 5, 0, 1);
        CHECK.dueDay(x, 2, WENT_ON);
        CHECK.dueDay(x, 4, "0 1 9 14 5 0");
        CHECK.dueDay(x, 3, "0 0 10 15 5 0");
    }

    private static void onIsAheadOfSitting() {
        CHECK.says("goes ON, else sits down if he can, else WAITS");
        CafeTables x = cafe("i1;i1", 0, 30, false, -9);
        x.group(0, 1, 0, 10, 0, 1);
        x.group(0, 6, 0, 10, 0, 1);
        x.group(0, 6, 0, 10, 0, 0);
        CHECK.dueDay(x, 0, WENT_ON);
        CHECK.dueDay(x, 1, WENT_ON);
        CHECK.dueDay(x, 2, "1 -9 -9 -9 0 30");
        CHECK.says("LURE is looked at as he comes, not as he WAITS");
        x = cafe("i1", 0, 30, false, -9);
        guest(x, 1, 0, 10);
        x.group(0, 1, 5, 10, 0, 1);
        CHECK.dueDay(x, 1, "0 0 10 20 6 5");
    }

    private static void othersWaitAsHeSitsDown() {
        CHECK.says("if somebody WAITS as he sits down: others than himself");
        CafeTables x = cafe("i1", 0, 30, false, -9);
        guest(x, 1, 0, 10);
        x.group(2, 1, 1, 9, 0, 0);
        CHECK.dueDay(x, 1, "0 0 10 28 5 9");
        CHECK.says("somebody WAITS: behind him, though that one goes AWAY in the same minute");
        guest(x, 1, 2, 10);
        CHECK.dueDay(x, 1, "0 0 10 30 6 9");
        x.patience(9);
        CHECK.dueDay(x, 1, "0 0 10 30 6 9");
        CHECK.dueDay(x, 2, "1 -9 -9 -9 0 9");
        CHECK.says("somebody WAITS: who has sat down ahead of him does not");
        x = cafe("i1;i1", 0, 30, false, -9);
        guest(x, 1, 0, 10);
        guest(x, 1, 0, 10);
        guest(x, 1, 1, 10);
        x.group(2, 1, 2, 9, 0, 0);
        CHECK.dueDay(x, 3, "0 1 10 28 5 8");
        CHECK.says("somebody WAITS: who went AWAY ahead of him in that minute does not");
        x = cafe("i1;i6", 0, 9, false, -9);
        guest(x, 1, 0, 10);
        guest(x, 6, 0, 60);
        guest(x, 6, 1, 10);
        x.group(2, 1, 2, 9, 0, 0);
        CHECK.dueDay(x, 2, "1 -9 -9 -9 0 9");
        CHECK.dueDay(x, 3, "0 0 10 28 5 8");
        CHECK.says("somebody WAITS: who comes in that minute behind him does not yet");
        x = cafe("i1;i1", 0, 30, false, -9);
        guest(x, 1, 0, 60);
        x.group(2, 1, 5, 9, 0, 0);
        guest(x, 1, 5, 10);
        CHECK.dueDay(x, 1, "0 1 5 23 5 0");
        CHECK.says("somebody WAITS: who came in that minute ahead of him does");
        x = cafe("i1;i1", 0, 30, false, -9);
        guest(x, 1, 0, 60);
        guest(x, 2, 5, 10);
        x.group(2, 1, 5, 9, 0, 0);
        CHECK.dueDay(x, 2, "0 1 5 25 6 0");
    }

    private static void seatsForAll() {
        CHECK.says("TABLES .. with SEATS for all");
        for (int v = 0; v <= 2; v++) {
            for (int seats = 1; seats <= 6; seats++) {
                for (int size = 1; size <= 6; size++) {
                    CafeTables x = cafe("w" + seats, v, 0, false, -9);
                    x.group(0, size, 0, 5, 1, 0);
                    CHECK.due(size + " at " + seats + " seats, rule " + v, x.day(0, 0), size <= seats ? 0 : 1);
                }
            }
        }
    }

    private static int tableOf(String text, int rule, int size, int wants) {
        CafeTables x = cafe(text, rule, 0, false, -9);
        x.group(0, size, 0, 5, wants, 0);
        return x.day(0, 1);
    }

    private static void ruleNought() {
        CHECK.says("by RULE 0 the least number");
        CHECK.due("not the fewest seats", tableOf("i6;i2;s2", 0, 2, 0), 0);
        CHECK.due("too small", tableOf("i1;i6;i2", 0, 2, 0), 1);
        CHECK.due("the last", tableOf("i1;i1;i1;i1;i1;i6", 0, 2, 0), 5);
    }

    private static void ruleOne() {
        CHECK.says("by RULE 1 that of the fewest SEATS, of several the least number");
        CHECK.due("fewest", tableOf("i6;s5;i4", 1, 2, 0), 2);
        CHECK.due("too few are not counted", tableOf("i1;i6;i3;i2", 1, 3, 0), 2);
        CHECK.due("of several the least", tableOf("i6;i4;s4;i4", 1, 2, 0), 1);
        CHECK.due("not where he wants", tableOf("i4;s5", 1, 2, 0), 0);
    }

    private static void ruleTwo() {
        CHECK.says("by RULE 2 of those where he WANTS, if there is one, as by RULE 1");
        CHECK.due("though it has more seats", tableOf("i2;w2;s6", 2, 2, 0), 2);
        CHECK.due("fewest of those", tableOf("i2;s6;s3;s4", 2, 2, 0), 2);
        CHECK.due("of several the least", tableOf("i2;s4;w2;s4", 2, 2, 0), 1);
        CHECK.due("the window", tableOf("s2;w6;i2", 2, 2, 1), 1);
        CHECK.due("inside", tableOf("s2;w2;i6", 2, 2, 2), 2);
        CHECK.says("by RULE 2 .. else of all, as by RULE 1");
        CHECK.due("none there", tableOf("i4;w3;i3", 2, 2, 0), 1);
        CHECK.due("too small there", tableOf("s1;i4;w3", 2, 2, 0), 2);
        CafeTables x = cafe("s2;i4;w3", 2, 0, false, -9);
        x.group(0, 2, 0, 10, 0, 0);
        x.group(0, 2, 5, 10, 0, 0);
        CHECK.due("taken there", x.day(1, 1), 2);
    }

    private static void notJoined() {
        CHECK.says("If there is none, and JOINING is told");
        CafeTables x = cafe("i2;i2", 0, 0, false, -9);
        guest(x, 3, 0, 5);
        CHECK.dueDay(x, 0, AWAY_AT_ONCE);
        x.joining(true);
        CHECK.dueDay(x, 0, "0 0 0 5 15 0");
        x.joining(false);
        CHECK.dueDay(x, 0, AWAY_AT_ONCE);
    }

    private static void joiningWithOneTable() {
        CHECK.says("of two TABLES: one TABLE is joined with none");
        CafeTables x = cafe("i5", 0, 0, true, -9);
        guest(x, 6, 0, 5);
        guest(x, 5, 0, 5);
        CHECK.dueDay(x, 0, AWAY_AT_ONCE);
        CHECK.dueDay(x, 1, "0 0 0 5 25 0");
        Check.take(x, "i5;i5");
        Check.take(x, "i5");
        x.joining(true);
        guest(x, 6, 0, 5);
        CHECK.dueDay(x, 0, AWAY_AT_ONCE);
    }

    private static void joiningWithTheLastTwo() {
        CHECK.says("of two TABLES of numbers beside one another: the last two, too");
        CafeTables x = cafe("i1;i1;i1;i1;i3;i3", 0, 0, true, -9);
        guest(x, 6, 0, 5);
        CHECK.dueDay(x, 0, "0 4 0 5 30 0");
        CHECK.due("both", x.taken(0, 0), 2);
        x = cafe("i3;i3", 0, 0, true, -9);
        guest(x, 6, 0, 5);
        CHECK.dueDay(x, 0, "0 0 0 5 30 0");
    }

    private static void joiningBesideOneAnother() {
        CHECK.says("numbers beside one another, both free");
        CafeTables x = cafe("i2;i3;i2", 0, 0, true, -9);
        guest(x, 3, 0, 50);
        guest(x, 4, 1, 5);
        CHECK.dueDay(x, 0, "0 1 0 50 30 0");
        CHECK.dueDay(x, 1, AWAY_AT_ONCE);
        CHECK.due("the first and the last are not beside", cafeOfEnds().day(2, 0), 1);
    }

    private static CafeTables cafeOfEnds() {
        CafeTables x = cafe("i1;i2;i2;i1", 0, 0, true, -9);
        guest(x, 2, 0, 50);
        guest(x, 2, 0, 50);
        guest(x, 2, 1, 5);
        return x;
    }

    private static void joiningTheLeast() {
        CHECK.says("with SEATS for all together: the least");
        int[][] due = {{4, 0}, {5, 1}, {6, -9}};
        for (int v = 0; v <= 2; v++) {
            for (int[] d : due) {
                CafeTables x = cafe("i2;s2;i3;i2;w4", v, 0, true, -9);
                x.group(0, 4, 0, 50, 1, 0);
                x.group(0, d[0], 1, 5, 2, 0);
                CHECK.due(d[0] + " by rule " + v, x.day(1, 1), d[1]);
            }
            CafeTables x = cafe("i1;i2;i2;i3;i3;s2", v, 0, true, -9);
            x.group(0, 5, 0, 5, 0, 0);
            x.group(0, 6, 10, 5, 0, 0);
            x.group(0, 4, 20, 5, 0, 0);
            CHECK.due("five: 2 and 3 together, rule " + v, x.day(0, 1), 2);
            CHECK.due("six: 3 and 3 together, rule " + v, x.day(1, 1), 3);
            CHECK.due("four: 2 and 2 together, rule " + v, x.day(2, 1), 1);
        }
    }

    private static void joiningOnlyIfThereIsNone() {
        CHECK.says("If there is none: one TABLE, of a greater number, is ahead of two");
        CafeTables x = cafe("i2;i2;i4", 0, 0, true, -9);
        guest(x, 4, 0, 50);
        guest(x, 4, 1, 50);
        guest(x, 1, 2, 50);
        CHECK.dueDay(x, 0, "0 2 0 50 40 0");
        CHECK.dueDay(x, 1, "0 0 1 51 40 0");
        CHECK.dueDay(x, 2, AWAY_AT_ONCE);
    }

    private static void bothAreTaken() {
        CHECK.says("both are taken");
        CafeTables x = cafe("i2;i2", 0, 30, true, -9);
        guest(x, 3, 0, 10);
        guest(x, 1, 5, 5);
        guest(x, 1, 5, 5);
        CHECK.dueDay(x, 0, "0 0 0 10 18 0");
        CHECK.due("as 9 ends", x.taken(9, 0), 2);
        CHECK.says("both are left as his time is over");
        CHECK.dueDay(x, 1, "0 0 10 15 5 5");
        CHECK.dueDay(x, 2, "0 1 10 15 5 5");
        CHECK.says("the TABLE at which it sat first (of two the lesser)");
        CafeTables y = cafe("i1;w5;s5", 2, 0, true, -9);
        y.group(0, 6, 0, 10, 0, 0);
        CHECK.due("the lesser, not where he wants", y.day(0, 1), 0);
    }

    private static void dayRefused() {
        CHECK.says("Of a GROUP's DAY: 0 .. 5. UNKNOWN; OUTSIDE");
        CafeTables x = new CafeTables();
        CHECK.due("without a cafe", x.day(0, 0), -1);
        Check.take(x, "i1");
        CHECK.due("without groups", x.day(0, 0), -1);
        guest(x, 1, 3, 10);
        int[] want = {0, 0, 3, 13, 6, 0};
        for (int what = 0; what <= 5; what++) {
            CHECK.due("what " + what, x.day(0, what), want[what]);
        }
        CHECK.due("what -1", x.day(0, -1), -2);
        CHECK.due("what 6", x.day(0, 6), -2);
        CHECK.due("group -1", x.day(-1, 0), -1);
        CHECK.due("group 1", x.day(1, 0), -1);
        CHECK.due("unknown is told first", x.day(1, 6), -1);
        CHECK.says("NONE where nothing was had");
        guest(x, 6, 3, 10);
        x.group(0, 1, 50, 10, 0, 1);
        for (int what = 1; what <= 3; what++) {
            CHECK.due("went away, what " + what, x.day(1, what), -9);
            CHECK.due("went on, what " + what, x.day(2, what), -9);
        }
        CHECK.due("went away, coin", x.day(1, 4), 0);
        CHECK.due("went on, coin", x.day(2, 4), 0);
        CHECK.due("went on, waited", x.day(2, 5), 0);
    }

    private static void takenRefused() {
        CHECK.says("taken: a minute (0 .. 399), what 0, 1. OUTSIDE; STATE: there is no CAFE");
        CafeTables x = new CafeTables();
        CHECK.due("minute 0", x.taken(0, 0), -3);
        CHECK.due("minute 399", x.taken(399, 1), -3);
        CHECK.due("outside first", x.taken(400, 0), -2);
        CHECK.due("outside first", x.taken(-1, 0), -2);
        CHECK.due("outside first", x.taken(0, 2), -2);
        CHECK.due("outside first", x.taken(0, -1), -2);
        Check.take(x, "i1");
        CHECK.due("minute 0", x.taken(0, 0), 0);
        CHECK.due("minute 399", x.taken(399, 1), 0);
        CHECK.due("minute 400", x.taken(400, 0), -2);
        CHECK.due("minute -1", x.taken(-1, 1), -2);
        CHECK.due("minute -9", x.taken(-9, 0), -2);
        CHECK.due("what 2", x.taken(0, 2), -2);
        CHECK.due("what -1", x.taken(0, -1), -2);
    }

    private static void takenAsAMinuteEnds() {
        CHECK.says("How many TABLES are taken, GROUPS WAIT as a minute ends");
        CafeTables x = cafe("i2;i2", 0, 4, true, -9);
        guest(x, 4, 10, 10);
        guest(x, 1, 16, 10);
        guest(x, 3, 17, 10);
        int[][] due = {{9, 0, 0}, {10, 2, 0}, {15, 2, 0}, {16, 2, 1}, {17, 2, 2}, {19, 2, 2}, {20, 1, 1}, {21, 1, 0}, {29, 1, 0},
            {30, 0, 0}};
        for (int[] d : due) {
            CHECK.due("taken as " + d[0] + " ends", x.taken(d[0], 0), d[1]);
            CHECK.due("waiting as " + d[0] + " ends", x.taken(d[0], 1), d[2]);
        }
        CHECK.due("asked backward", x.taken(10, 0), 2);
    }

    private static void noGroups() {
        CHECK.says("a DAY of no GROUPS");
        CafeTables x = cafe("s1;i2", 1, 30, true, 5);
        CHECK.due("coin", x.coin(), 0);
        CHECK.due("taken", x.taken(5, 0), 0);
        CHECK.due("waiting", x.taken(5, 1), 0);
        CHECK.due("day", x.day(0, 0), -1);
        CHECK.due("worth", x.worth(0), Check.LOST);
        CHECK.says("COIN of the DAY. STATE: there is no CAFE");
        CHECK.due("coin", new CafeTables().coin(), -3);
    }

    private static void oneGroup() {
        CHECK.says("a DAY of one GROUP: its COIN is the DAY's, and its WORTH");
        CafeTables x = Check.cafe("i6");
        guest(x, 6, 0, 60);
        CHECK.due("coin", x.coin(), 66);
        CHECK.due("its coin", x.day(0, 4), 66);
        CHECK.due("worth", x.worth(0), 66);
        CHECK.due("coin stays", x.coin(), 66);
    }

    private static void eightGroups() {
        CHECK.says("a DAY of eight GROUPS");
        CafeTables x = cafe("i1;i1;i1;i1;i1;i1", 0, 30, false, -9);
        for (int g = 0; g < 8; g++) {
            guest(x, 1, 0, 10);
        }
        for (int g = 0; g < 6; g++) {
            CHECK.dueDay(x, g, "0 " + g + " 0 10 6 0");
        }
        CHECK.dueDay(x, 6, "0 0 10 20 6 10");
        CHECK.dueDay(x, 7, "0 1 10 20 6 10");
        CHECK.due("coin", x.coin(), 48);
        CHECK.due("taken", x.taken(9, 0), 6);
        CHECK.due("waiting", x.taken(9, 1), 2);
        CHECK.due("the eighth's worth", x.worth(7), 6);
        CHECK.due("the ninth's day", x.day(8, 0), -1);
    }

    private static void worths() {
        CHECK.says("WORTH of a GROUP: COIN of the DAY less that of the DAY without it");
        CafeTables x = Check.cafe("i6");
        guest(x, 1, 0, 60);
        guest(x, 6, 1, 60);
        CHECK.due("below 0", x.worth(0), 11 - 66);
        CHECK.due("nothing", x.worth(1), 0);
        CHECK.due("the day stays", x.coin(), 11);
        CHECK.due("taken stays", x.taken(1, 0), 1);
        x = Check.cafe("i1;i6");
        guest(x, 1, 0, 60);
        x.group(0, 6, 1, 60, 0, 1);
        CHECK.due("who lures is worth what the other brings, too", x.worth(0), 77);
        CHECK.due("who is lured", x.worth(1), 66);
        CHECK.says("the DAY without it: the others keep their numbers");
        x = Check.cafe("i1");
        guest(x, 1, 0, 60);
        guest(x, 1, 0, 50);
        guest(x, 1, 0, 40);
        CHECK.due("the second sits in his stead, not the third", x.worth(0), 11 - 10);
    }

    private static void worthRefused() {
        CHECK.says("WORTH. UNKNOWN (told as LOST)");
        CafeTables x = new CafeTables();
        CHECK.due("without a cafe", x.worth(0), Check.LOST);
        Check.take(x, "i1");
        CHECK.due("without groups", x.worth(0), Check.LOST);
        guest(x, 1, 0, 1);
        CHECK.due("group 0", x.worth(0), 5);
        CHECK.due("group 1", x.worth(1), Check.LOST);
        CHECK.due("group -1", x.worth(-1), Check.LOST);
        CHECK.due("group 8", x.worth(8), Check.LOST);
    }
}
