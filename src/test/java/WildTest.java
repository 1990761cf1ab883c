import java.util.NoSuchElementException;
import java.util.Random;

/** Calls with any arguments in any state: nothing but what the document says is thrown, and each call ends. */
public final class WildTest {
    private static final String TEXT = Check.text(8, "ab bc cd de ef fg gh ha aa bb ac ca");

    public static void main(String[] args) {
        Check check = new Check();
        Random chance = new Random(99);
        for (int run = 0; run < 4000 && !check.failed(); run++) {
            RoundWalks x = new RoundWalks();
            check.part("run " + run);
            for (int i = 0; i < 512; i++) {
                int choice = chance.nextInt(37);
                check.due("call " + choice + " throws as told", throwsAsTold(x, choice, chance), true);
            }
        }
        check.close();
    }

    private static boolean throwsAsTold(RoundWalks x, int choice, Random chance) {
        try {
            call(x, choice, chance);
            return true;
        } catch (NoSuchElementException e) {
            return choice >= 31 && choice <= 35;
        } catch (RuntimeException e) {
            e.printStackTrace(System.out);
            return false;
        }
    }

    private static int any(Random chance) {
        switch (chance.nextInt(12)) {
            case 0:
                return chance.nextInt();
            case 1:
                return Integer.MIN_VALUE + chance.nextInt(3);
            case 2:
                return Integer.MAX_VALUE - chance.nextInt(3);
            case 3:
                return chance.nextInt(600) - 30;
            default:
                return chance.nextInt(12) - 2;
        }
    }

    private static long anyRank(Random chance) {
        switch (chance.nextInt(4)) {
            case 0:
                return chance.nextLong();
            case 1:
                return chance.nextBoolean() ? Long.MIN_VALUE : Long.MAX_VALUE;
            default:
                return any(chance);
        }
    }

    private static void call(RoundWalks x, int choice, Random chance) {
        int a = any(chance);
        int b = any(chance);
        switch (choice) {
            case 0: x.feed(a, b, any(chance), any(chance), any(chance)); break;
            case 1: x.feed(0x61626162, 0x70707070, 0x6162613b, 0x61626120, chance.nextInt()); break;
            case 2: x.end(a); break;
            case 3: x.net(); break;
            case 4: Check.net(x, TEXT); break;
            case 5: x.fault(); break;
            case 6: x.now(a); break;
            case 7: x.kind(); break;
            case 8: x.ends(a); break;
            case 9: x.trees(a); break;
            case 10: x.walks(); break;
            case 11: x.walkAt(a); break;
            case 12: x.lasts(); break;
            case 13: x.rank(); break;
            case 14: x.by(chance.nextBoolean() ? a : x.lasts()); break;
            case 15: x.first(chance.nextBoolean() ? a : x.lasts()); break;
            case 16: x.drawn(a); break;
            case 17: x.words(); break;
            case 18: Check.words(x, "abracadabraabraca".substring(chance.nextInt(17))); break;
            case 19: x.wordRank(); break;
            case 20: x.letterAt(a); break;
            case 21: x.braid(a, b); break;
            case 22: x.again(); break;
            case 23: x.lack(); break;
            case 24: x.righted(a); break;
            case 25: x.add(a, b); break;
            case 26: x.drop(a); break;
            case 27: x.turn(a); break;
            case 28: x.deeds(a, b); break;
            case 29: x.undo(); break;
            case 30: x.image(a); break;
            case 31: x.arc(a, b); break;
            case 32: x.degree(a, b); break;
            case 33: x.tree(a, b); break;
            case 34: x.walk(anyRank(chance)); break;
            case 35: x.word(anyRank(chance)); break;
            default: x.restore(a);
        }
    }
}
