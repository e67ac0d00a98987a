/** Lands that more than one test begins with. */
final class Lands {
    private Lands() {
    }

    /** No market, no stills, no damp, no vines: what is kept and free stays, the price stays 100. */
    static SurplusLand quiet(int... acres) {
        SurplusLand x = new SurplusLand();
        x.terms(0, 0, 0, 0, 10000, 0, 0);
        for (int a : acres) {
            x.grower(x.count(1) % 8, a);
        }
        return x;
    }

    /** A quiet land in year 1, with a receipt for all that each grower had. */
    static SurplusLand stored(int... sacks) {
        SurplusLand x = quiet(new int[sacks.length]);
        Check.law(x, "keep 100", 0, 0);
        for (int n = 0; n < sacks.length; n++) {
            x.crop(n, sacks[n]);
        }
        x.go(0);
        return x;
    }

    /** Sets the price of a quiet land by a year without a market; the first grower has the sacks that it takes. */
    static void price(SurplusLand x, int price) {
        int now = x.count(3);
        int free = x.count(5);
        x.crop(0, price <= now ? Math.max(0, now - price - free) : 0);
        for (int n = 1; n < x.count(1); n++) {
            x.crop(n, 0);
        }
        x.terms(price > now ? price - now + free : 0, 0, 1000, 0, 10000, 0, 0);
        x.go(0);
        x.terms(0, 0, 0, 0, 10000, 0, 0);
    }

    /** Something of everything, in year 2: growers, papers, loans, rows, a crop told, a tape. */
    static void lively(SurplusLand x) {
        x.terms(900, 90, 120, 40, 95, 20, 30);
        x.bank(0, 60, 15);
        x.bank(1, 40, 5);
        x.grower(1, 30);
        x.grower(2, 50);
        x.grower(3, 20);
        Check.law(x, "keep 40 if year<3;keep 10;sell 9 if year>1;free 3;still 3", 0, 29);
        x.go(7);
        x.go(5);
        x.pledge(0, 0, 2);
        x.pledge(0, 1, 3);
        x.split(1, 10);
        x.row(0, 2, 4);
        x.write(0, 0, 123456);
        x.write(0, 1, 7);
        x.write(0, 2, 70000);
        x.row(1, 1, 2);
        x.row(2, 2, 60);
        x.crop(1, 77);
        Check.law(x, "keep 1;keep", 2, 2);
        Check.type(x, "keep 7;free 1");
    }

    /** A grower who has pledged all and has less money than is owed. */
    static void poor(SurplusLand x) {
        x.terms(0, 0, 0, 0, 10000, 0, 0);
        x.grower(0, 100);
        Check.law(x, "keep 100", 0, 0);
        x.go(1);
        x.pledge(0, 0, 5);
    }

    /** Bank 2 holds receipt 0, grower 0 receipt 1, and receipt 2 has no sacks. */
    static void seized(SurplusLand x) {
        x.terms(0, 0, 0, 0, 10000, 0, 0);
        x.grower(0, 10);
        x.grower(1, 20);
        x.grower(2, 30);
        Check.law(x, "keep 100", 0, 0);
        x.go(1);
        x.bank(2, 100, 100);
        x.pledge(0, 2, 1);
        x.go(0);
        x.go(0);
        x.redeem(2);
    }

    /** All thirty years have gone. */
    static void ended(SurplusLand x) {
        x.terms(0, 0, 0, 0, 10000, 0, 0);
        x.grower(0, 10);
        Check.law(x, "keep 50", 0, 29);
        for (int y = 0; y < 30; y++) {
            x.go(y % 3);
        }
        Check.type(x, "keep 5");
    }

    /** Twelve growers. */
    static void peopled(SurplusLand x) {
        for (int n = 0; n < 12; n++) {
            x.grower(n % 8, 3 * n);
        }
    }

    /** Two growers and 400 receipts, the first of which has most sacks; the second is pledged. */
    static void crowded(SurplusLand x) {
        x.terms(0, 0, 0, 0, 10000, 0, 0);
        x.grower(0, 1000);
        x.grower(1, 1000);
        Check.law(x, "keep 100", 0, 0);
        x.go(1);
        x.pledge(1, 0, 9);
        for (int n = 2; n < 400; n++) {
            x.split(0, 1);
        }
    }
}
