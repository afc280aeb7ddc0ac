/** "All exact": the answers at 24 ROWS with numbers and TOLD numbers at their bounds, found by fractions of any size. */
public final class BoundaryExactTest {
    private static final Checks CHECKS = new Checks();

    public static void main(String[] args) {
        nearlyAcross();
        toldAlong();
        nearlySame();
        anySigns();
        belowZero();
        twoColumns();
        oneColumn();
        twoFreeOfThree();
        oneFreeOfThree();
        tenThere();
        elevenThere();
        againstEachOther();
        CHECKS.end();
    }

    private static void nearlyAcross() {
        CHECKS.sentence("What it is", "all exact: columns that are nearly at right angles: the greatest divisors");
        Script.run(CHECKS, """
            columns 3; row -99 8 8 9; row 99 9 -9 -9; row 98 -9 9 -9; row 99 -9 -9 8; row -98 9 9 9
            row -98 8 -9 -9; row -98 -9 9 -9; row 99 -9 -8 9; row 99 9 9 9; row 99 9 -9 -9; row 98 -8 9 -9
            row 99 -9 -9 9; row 99 9 9 9; row -99 9 -9 -9; row 99 -9 8 -8; row 99 -8 -9 9; row -98 9 9 9
            row -99 9 -9 -9; row 98 -9 9 -9; row -98 -9 -9 9; row -98 8 9 9; row 99 9 -8 -9; row 99 -9 9 -9
            row 99 -9 -9 9; free = 3; weight 0 = -10017522490/2220095147; weight 1 = -1909336387/2220095147
            weight 2 = -2049216887/2220095147; sum = 427805653756317/2220095147
            miss 0 = -105931596554/2220095147; pull 0 = 738831244/6660285441
            without 0 0 = -25338193278/5921454197; far 0 0 = 15026283735/14467358
            without 0 1 = -3745026999/5921454197; far 0 1 = 818287023/4034587
            without 0 2 = -3973712625/5921454197; far 0 2 = 6147650661/31268516
            miss 11 = 130890641643/2220095147; pull 11 = 288379440/2220095147
            without 11 0 = -8082873940/1931715707; far 11 0 = -1001752249/1074375
            without 11 1 = -1025068378/1931715707; far 11 1 = -1909336387/10791801
            without 11 2 = -2402474168/1931715707; far 11 2 = 2049216887/10506609
            miss 23 = 130890641643/2220095147; pull 23 = 288379440/2220095147
            without 23 0 = -8082873940/1931715707; far 23 0 = -1001752249/1074375
            without 23 1 = -1025068378/1931715707; far 23 1 = -1909336387/10791801
            without 23 2 = -2402474168/1931715707; far 23 2 = 2049216887/10506609; few 0 = 233451/1
            few 0 = 0; few 1 = 363878280/1859; few 1 = 1; few 2 = 689117897880/3550609; few 2 = 5
            few 3 = 427805653756317/2220095147; few 3 = 7; half 0 = none; half 24 = none; sizes = 25879/18
            sized 0 = -197/18; sized 1 = 0/1; sized 2 = 1/18; level = 99/1
            barred 0 0 = -10017522490/2220095147; barred 0 1 = -1909336387/2220095147
            barred 0 2 = -2049216887/2220095147; cost 0 = 427805653756317/2220095147
            barred 1 0 = -30050760097/6660285441; barred 1 1 = -11452484117/13320570882
            barred 1 2 = -12291828685/13320570882; cost 1 = 1283458886840846/6660285441
            barred 7 0 = -30039915859/6660285441; barred 7 1 = -11431278887/13320570882
            barred 7 2 = -12270992863/13320570882; cost 7 = 1283710328745542/6660285441
            barred 4999 0 = -11747/3718; barred 4999 1 = 0/1; barred 4999 2 = 0/1
            cost 4999 = 1597949627/7436; barred 20000 0 = 0/1; barred 20000 1 = 0/1; barred 20000 2 = 0/1
            cost 20000 = 233451/1; barred 42000 0 = 0/1; barred 42000 1 = 0/1; barred 42000 2 = 0/1
            cost 42000 = 233451/1; barred 50000 0 = 0/1; barred 50000 1 = 0/1; barred 50000 2 = 0/1
            cost 50000 = 233451/1; corners = 3; corner 0 = 16746/1; corner 1 = 1652220/467
            corner 2 = 11456018322/3534205; corner 3 = none
            """);
    }

    private static void toldAlong() {
        CHECKS.sentence("What it is", "all exact: TOLD numbers along a column: the greatest weights' tops and corners");
        Script.run(CHECKS, """
            columns 3; row 99 8 8 9; row 98 9 -9 -9; row -99 -9 9 -9; row -99 -9 -9 9; row 98 9 9 9
            row 99 8 -9 -9; row -99 -9 9 -9; row -98 -9 -8 9; row 99 9 9 9; row 99 9 -9 -9; row -98 -8 9 -9
            row -99 -9 -9 9; row 99 9 9 9; row 98 9 -9 -9; row -99 -9 8 -9; row -99 -8 -9 9; row 98 9 9 9
            row 99 9 -9 -9; row -99 -9 9 -9; row -98 -9 -9 9; row 99 8 9 8; row 99 9 -8 -9; row -98 -9 9 -9
            row -99 -9 -9 9; free = 3; weight 0 = 25084439137/2239854383; weight 1 = 108675871/2239854383
            weight 2 = 106729613/2239854383; sum = 1140100480934/2239854383; miss 0 = 19240097336/2239854383
            pull 0 = 250703972/2239854383; without 0 0 = 22192784485/1989150411
            far 0 0 = -25084439137/9777332; without 0 1 = 13669939/1989150411; far 0 1 = -108675871/9644129
            without 0 2 = 3795329/1989150411; far 0 2 = -106729613/10592476; miss 11 = 4031884638/2239854383
            pull 11 = 286682517/2239854383; without 11 0 = 10946637491/976585933
            far 11 0 = 25084439137/10795728; without 11 1 = 57051395/976585933
            far 11 1 = 108675871/10742118; without 11 2 = 37250032/976585933; far 11 2 = -106729613/10315767
            miss 23 = 4031884638/2239854383; pull 23 = 286682517/2239854383
            without 23 0 = 10946637491/976585933; far 23 0 = 25084439137/10795728
            without 23 1 = 57051395/976585933; far 23 1 = 108675871/10742118
            without 23 2 = 37250032/976585933; far 23 2 = -106729613/10315767; few 0 = 233648/1; few 0 = 0
            few 1 = 962508/1859; few 1 = 1; few 2 = 1790376589/3487420; few 2 = 3
            few 3 = 1140100480934/2239854383; few 3 = 7; half 0 = none; half 24 = none; sizes = 61/1
            sized 0 = 11/1; sized 1 = 0/1; sized 2 = 0/1; level = 107/17
            barred 0 0 = 25084439137/2239854383; barred 0 1 = 108675871/2239854383
            barred 0 2 = 106729613/2239854383; cost 0 = 1140100480934/2239854383
            barred 1 0 = 75251486159/6719563149; barred 1 1 = 324220393/6719563149
            barred 1 2 = 636841427/13439126298; cost 1 = 13984793093465/26878252596
            barred 3 0 = 25082607885/2239854383; barred 3 1 = 106868651/2239854383
            barred 3 2 = 209922975/4479708766; cost 3 = 4863967619603/8959417532
            barred 13 0 = 75229511135/6719563149; barred 13 1 = 302533753/6719563149
            barred 13 2 = 594406415/13439126298; cost 13 = 17626154102129/26878252596
            barred 5000 0 = 18318/1859; barred 5000 1 = 0/1; barred 5000 2 = 0/1; cost 5000 = 98802508/1859
            barred 40000 0 = 818/1859; barred 40000 1 = 0/1; barred 40000 2 = 0/1
            cost 40000 = 433682508/1859; barred 42000 0 = 0/1; barred 42000 1 = 0/1; barred 42000 2 = 0/1
            cost 42000 = 233648/1; barred 50000 0 = 0/1; barred 50000 1 = 0/1; barred 50000 2 = 0/1
            cost 50000 = 233648/1; corners = 3; corner 0 = 41636/1; corner 1 = 169865/938
            corner 2 = 326027613/1807220; corner 3 = none
            """);
    }

    private static void nearlySame() {
        CHECKS.sentence("What it is", "all exact: columns that are nearly the same: the smallest divisors for what stands over them");
        Script.run(CHECKS, """
            columns 3; row 98 9 9 9; row -98 9 9 9; row 98 9 9 9; row 99 8 9 9; row -99 9 9 9; row -98 9 9 9
            row -98 9 9 9; row 98 9 9 9; row 99 9 9 9; row -99 9 9 9; row 99 9 9 9; row -98 9 8 9
            row -99 9 9 9; row -98 9 9 9; row 99 9 9 9; row 99 9 9 9; row -98 9 9 9; row 99 9 9 9
            row 98 9 9 9; row -99 9 9 9; row 99 9 9 9; row -99 9 9 9; row 99 9 9 9; row -98 9 9 8; free = 3
            weight 0 = -758916/5779; weight 1 = 379547/5779; weight 2 = 379547/5779; sum = 1197307701/5779
            miss 0 = 564740/5779; pull 0 = 243/5779; without 0 0 = -181971/1384; far 0 0 = 84324/1
            without 0 1 = 90677/1384; far 0 1 = -379547/9; without 0 2 = 90677/1384; far 0 2 = -379547/9
            miss 11 = -188397/5779; pull 11 = 4078/5779; without 11 0 = -1979/21; far 11 0 = 84324/215
            without 11 1 = -1511/189; far 11 1 = 379547/3844; without 11 2 = 2158/21
            far 11 2 = -379547/1935; miss 23 = -188397/5779; pull 23 = 4078/5779; without 23 0 = -1979/21
            far 23 0 = 84324/215; without 23 1 = 2158/21; far 23 1 = -379547/1935; without 23 2 = -1511/189
            far 23 2 = 379547/3844; few 0 = 233057/1; few 0 = 0; few 1 = 449085214/1927; few 1 = 2
            few 2 = 823201678/3853; few 2 = 3; few 3 = 1197307701/5779; few 3 = 7; half 0 = none
            half 24 = none; sizes = 54693/26; sized 0 = -3447/26; sized 1 = 1675/26; sized 2 = 1675/26
            level = 99/1; barred 0 0 = -758916/5779; barred 0 1 = 379547/5779; barred 0 2 = 379547/5779
            cost 0 = 1197307701/5779; barred 1 0 = -1510127/11558; barred 1 1 = 755241/11558
            barred 1 2 = 755241/11558; cost 1 = 4795287433/23116; barred 2 0 = -751211/5779
            barred 2 1 = 375694/5779; barred 2 2 = 375694/5779; cost 2 = 1200328310/5779
            barred 3 0 = -1494717/11558; barred 3 1 = 747535/11558; barred 3 2 = 747535/11558
            cost 3 = 4807308225/23116; barred 7 0 = -1463897/11558; barred 7 1 = 732123/11558
            barred 7 2 = 732123/11558; cost 7 = 4830979945/23116; barred 4999 0 = 0/1; barred 4999 1 = 0/1
            barred 4999 2 = 0/1; cost 4999 = 233057/1; barred 50000 0 = 0/1; barred 50000 1 = 0/1
            barred 50000 2 = 0/1; cost 50000 = 233057/1; corners = 2; corner 0 = 250/1
            corner 1 = 1517832/7705; corner 2 = none
            """);
    }

    private static void anySigns() {
        CHECKS.sentence("What it is", "all exact: any signs at the bounds");
        Script.run(CHECKS, """
            columns 3; row -99 9 -8 -9; row -98 9 -9 -8; row 98 8 9 -9; row -99 -8 -9 -9; row 99 9 -9 9
            row 99 9 -9 -9; row -98 9 9 -9; row -98 8 9 -8; row -99 9 9 8; row 99 8 9 8; row -99 9 -9 8
            row -99 9 8 9; row -98 -9 -9 9; row -98 8 -9 -8; row 98 -8 -9 8; row -98 -9 -9 -9
            row -98 9 8 -8; row 98 -9 8 -9; row 98 9 8 8; row -98 -8 -8 9; row -98 -8 -9 -8; row -98 9 -8 8
            row 98 -8 -8 -8; row -99 -8 -9 -9; free = 3; weight 0 = -60106449/25959094
            weight 1 = 706897535/207672752; weight 2 = 267580975/155754564; sum = 127695700532635/623018256
            miss 0 = -1841446535/51918188; pull 0 = 8594063/51918188; without 0 0 = -17301191/8664825
            far 0 0 = 60106449/194653; without 0 1 = 434620969/138637200; far 0 1 = 706897535/1314076
            without 0 2 = 25890481/17329650; far 0 2 = 267580975/820719; miss 11 = -6274522525/51918188
            pull 11 = 5126543/51918188; without 11 0 = -16914974/9358329; far 11 0 = 60106449/98333
            without 11 1 = 567573865/149733264; far 11 1 = -706897535/598828
            without 11 2 = 43750615/18716658; far 11 2 = -267580975/719631; miss 23 = -14833365669/207672752
            pull 23 = 20467939/207672752; without 23 0 = -477509187/187204813; far 23 0 = -60106449/77089
            without 23 1 = 2329965565/748819252; far 23 1 = 141379507/153263
            without 23 2 = 3036749057/2246457756; far 23 2 = 267580975/719784; few 0 = 232269/1; few 0 = 0
            few 1 = 393881327/1808; few 1 = 2; few 2 = 303915285785/1446896; few 2 = 3
            few 3 = 127695700532635/623018256; few 3 = 7; half 0 = none; half 24 = none; sizes = 30511/17
            sized 0 = -1/17; sized 1 = 186/17; sized 2 = 0/1; level = 99/1; barred 0 0 = -60106449/25959094
            barred 0 1 = 706897535/207672752; barred 0 2 = 267580975/155754564
            cost 0 = 127695700532635/623018256; barred 1 0 = -60095359/25959094
            barred 1 1 = 1413634867/415345504; barred 1 2 = 89178561/51918188
            cost 1 = 170267111680133/830691008; barred 7 0 = -60028819/25959094
            barred 7 1 = 1412673649/415345504; barred 7 2 = 89087977/51918188
            cost 7 = 170304158246141/830691008; barred 499 0 = -7796077/3708442
            barred 499 1 = 190550539/59335072; barred 499 2 = 11665727/7416884
            cost 499 = 24747093716531/118670144; barred 2000 0 = -37926449/25959094
            barred 2000 1 = 546694535/207672752; barred 2000 2 = 176996975/155754564
            cost 2000 = 135587578094635/623018256; barred 50000 0 = 0/1; barred 50000 1 = 0/1
            barred 50000 2 = 0/1; cost 50000 = 232269/1; corners = 3; corner 0 = 10210/1
            corner 1 = 309553/52; corner 2 = 60106449/11090; corner 3 = none
            """);
    }

    private static void belowZero() {
        CHECKS.sentence("What it is", "all exact: all below 0 but a column");
        Script.run(CHECKS, """
            columns 3; row -99 -9 -8 8; row -99 -8 -9 9; row -99 -9 -9 9; row -99 -8 -8 9; row -99 -9 -9 9
            row -99 -8 -9 8; row -99 -9 -8 9; row -98 -8 -9 9; row -99 -9 -9 9; row -99 -8 -8 9
            row -99 -9 -9 8; row -99 -8 -9 9; row -99 -9 -8 9; row -99 -8 -9 9; row -99 -9 -9 9
            row -99 -8 -8 8; row -99 -9 -9 9; row -99 -8 -9 9; row -99 -9 -8 9; row -99 -8 -9 9
            row -99 -9 -9 8; row -99 -8 -8 9; row -99 -9 -9 9; row -99 -8 -9 9; free = 3
            weight 0 = 488223/139924; weight 1 = 430913/139924; weight 2 = -169189/34981
            sum = 29524465/139924; miss 0 = -597117/139924; pull 0 = 28823/139924
            without 0 0 = 304938/111101; far 0 0 = 162741/6461; without 0 1 = 371317/111101
            far 0 1 = -430913/6835; without 0 2 = -585863/111101; far 0 2 = -169189/2842
            miss 11 = 22329/139924; pull 11 = 15291/139924; without 11 0 = 432981/124633
            far 11 0 = -54247/1315; without 11 1 = 385076/124633; far 11 1 = 430913/7855
            without 11 2 = -603496/124633; far 11 2 = 169189/1091; miss 23 = 22329/139924
            pull 23 = 15291/139924; without 23 0 = 432981/124633; far 23 0 = -54247/1315
            without 23 1 = 385076/124633; far 23 1 = 430913/7855; without 23 2 = -603496/124633
            far 23 2 = 169189/1091; few 0 = 235027/1; few 0 = 0; few 1 = 940793/1859; few 1 = 4
            few 2 = 5507241/19811; few 2 = 5; few 3 = 29524465/139924; few 3 = 7; half 0 = none
            half 24 = none; sizes = 101/2; sized 0 = 99/26; sized 1 = 99/26; sized 2 = -99/26; level = 99/17
            barred 0 0 = 488223/139924; barred 0 1 = 430913/139924; barred 0 2 = -169189/34981
            cost 0 = 29524465/139924; barred 1 0 = 488001/139924; barred 1 1 = 430883/139924
            barred 1 2 = -338481/69962; cost 1 = 15560167/69962; barred 7 0 = 486669/139924
            barred 7 1 = 430703/139924; barred 7 2 = -339099/69962; cost 7 = 20347291/69962
            barred 4999 0 = 0/1; barred 4999 1 = 0/1; barred 4999 2 = -36761/3718
            cost 4999 = 396289651/7436; barred 41000 0 = 0/1; barred 41000 1 = 0/1
            barred 41000 2 = -380/1859; cost 41000 = 436770793/1859; barred 50000 0 = 0/1
            barred 50000 1 = 0/1; barred 50000 2 = 0/1; cost 50000 = 235027/1; corners = 3
            corner 0 = 41760/1; corner 1 = 24759/5; corner 2 = 162741/74; corner 3 = none
            """);
    }

    private static void twoColumns() {
        CHECKS.sentence("What it is", "all exact: two columns");
        Script.run(CHECKS, """
            columns 2; row -98 8 -9 0; row -98 -9 -8 0; row -99 -9 9 0; row -98 8 -9 0; row -98 8 9 0
            row 99 -9 9 0; row 99 8 9 0; row -98 -9 -9 0; row -98 -9 -9 0; row -99 9 9 0; row -98 -9 -8 0
            row 99 -9 8 0; row 98 -8 -8 0; row 99 -9 -9 0; row -98 8 -9 0; row -99 9 9 0; row 98 -8 -8 0
            row -98 9 -8 0; row -99 -9 9 0; row 98 8 9 0; row 99 -9 -9 0; row 99 -8 8 0; row -98 8 9 0
            row 98 8 -8 0; free = 2; weight 0 = -9234724/3077431; weight 1 = 606258/439633
            sum = 664151068446/3077431; miss 0 = -189516192/3077431; pull 0 = 303389/3077431
            without 0 0 = -3629500/1387021; far 0 0 = 9234724/17299; without 0 1 = 1348218/1387021
            far 0 1 = 22454/97; miss 11 = 187602705/3077431; pull 11 = 304256/3077431
            without 11 0 = -1435228/554635; far 11 0 = -2308681/4698; without 11 1 = 558909/554635
            far 11 1 = -606258/2413; miss 23 = 409416478/3077431; pull 23 = 268480/3077431
            without 23 0 = -10688596/2808951; far 23 0 = 2308681/4246; without 23 1 = 6078814/2808951
            far 23 1 = 303129/1184; few 0 = 232466/1; few 0 = 0; few 1 = 385036518/1757; few 1 = 1
            few 2 = 664151068446/3077431; few 2 = 3; half 0 = none; half 24 = none; sizes = 1825/1
            sized 0 = -11/1; sized 1 = 0/1; level = 99/1; barred 0 0 = -9234724/3077431
            barred 0 1 = 606258/439633; cost 0 = 664151068446/3077431; barred 1 0 = -18467325/6154862
            barred 1 1 = 606110/439633; cost 1 = 2656658183709/12309724; barred 7 0 = -18454587/6154862
            barred 7 1 = 605222/439633; cost 7 = 2656981467069/12309724; barred 4999 0 = -4677/3514
            barred 4999 1 = 0/1; cost 4999 = 1611896719/7028; barred 20000 0 = 0/1; barred 20000 1 = 0/1
            cost 20000 = 232466/1; barred 42000 0 = 0/1; barred 42000 1 = 0/1; cost 42000 = 232466/1
            barred 50000 0 = 0/1; barred 50000 1 = 0/1; cost 50000 = 232466/1; corners = 2
            corner 0 = 9676/1; corner 1 = 303129/74; corner 2 = none
            """);
    }

    private static void oneColumn() {
        CHECKS.sentence("What it is", "all exact: one column");
        Script.run(CHECKS, """
            columns 1; row -99 -9 0 0; row 99 9 0 0; row 99 9 0 0; row -99 9 0 0; row 97 -9 0 0
            row 99 9 0 0; row -99 9 0 0; row 99 9 0 0; row 99 -9 0 0; row -99 9 0 0; row 99 9 0 0
            row 99 9 0 0; row -99 -9 0 0; row 99 9 0 0; row 99 9 0 0; row -99 9 0 0; row 99 -9 0 0
            row 99 9 0 0; row -99 9 0 0; row 99 9 0 0; row 99 -9 0 0; row -99 9 0 0; row 99 9 0 0
            row 99 9 0 0; free = 1; weight 0 = 199/108; sum = 1369391/6; miss 0 = -989/12; pull 0 = 1/24
            without 0 0 = 13/9; far 0 0 = 398/1; miss 11 = 989/12; pull 11 = 1/24; without 11 0 = 13/9
            far 11 0 = -398/1; miss 23 = 989/12; pull 23 = 1/24; without 23 0 = 13/9; far 23 0 = -398/1
            few 0 = 234832/1; few 0 = 0; few 1 = 1369391/6; few 1 = 1; half 0 = none; half 24 = none
            sizes = 1978/1; sized 0 = 11/1; level = 99/1; barred 0 0 = 199/108; cost 0 = 1369391/6
            barred 1 0 = 7163/3888; cost 1 = 1774745063/7776; barred 7 0 = 7157/3888
            cost 7 = 1774830983/7776; barred 4999 0 = 2165/3888; cost 4999 = 1821366407/7776
            barred 20000 0 = 0/1; cost 20000 = 234832/1; barred 42000 0 = 0/1; cost 42000 = 234832/1
            barred 50000 0 = 0/1; cost 50000 = 234832/1; corners = 1; corner 0 = 7164/1; corner 1 = none
            """);
    }

    private static void twoFreeOfThree() {
        CHECKS.sentence("What it is", "all exact: a column is another's opposite: FREE is 2");
        Script.run(CHECKS, """
            columns 3; row -99 -8 8 -8; row -98 -8 8 -9; row 99 9 -9 8; row -99 -9 9 9; row 98 -8 8 8
            row 98 8 -8 8; row 99 8 -8 -9; row -99 -8 8 -8; row -99 8 -8 8; row 99 -9 9 8; row -98 8 -8 -9
            row -98 -9 9 8; row 99 -9 9 -8; row -98 9 -9 9; row -98 -8 8 8; row -98 -9 9 8; row -99 -8 8 -9
            row 98 9 -9 9; row 98 -9 9 9; row 99 9 -9 -8; row 99 -8 8 -8; row -99 -9 9 -9; row 98 9 -9 9
            row -99 8 -8 -9; free = 2; weight 0 = 1040447/744744; weight 1 = -1040447/744744
            weight 2 = 117043/62062; sum = 19725505960/93093; miss 0 = -5730797/93093; pull 0 = 6374/93093
            without 0 0 = 217909/173438; far 0 0 = none; without 0 1 = -217909/173438; far 0 1 = none
            without 0 2 = 138889/86719; far 0 2 = none; miss 11 = -1559357/17732; pull 11 = 12895/141856
            without 11 0 = 145385/128961; far 11 0 = none; without 11 1 = -145385/128961; far 11 1 = none
            without 11 2 = 306701/128961; far 11 2 = none; miss 23 = -1766731/16926; pull 23 = 6161/67704
            without 23 0 = 2283637/1353946; far 23 0 = none; without 23 1 = -2283637/1353946
            far 23 1 = none; without 23 2 = 839251/676973; far 23 2 = none; few 0 = 233057/1; few 0 = 0
            few 1 = 94821074/435; few 1 = 1; few 2 = 19725505960/93093; few 2 = 5; few 3 = 19725505960/93093
            few 3 = 7; half 0 = none; half 24 = none; sizes = none; sized 0 = none; level = none
            barred 0 0 = none; barred 50000 0 = none; cost 0 = none; cost 50000 = none; corner 0 = none
            corners = -1
            """);
    }

    private static void oneFreeOfThree() {
        CHECKS.sentence("What it is", "all exact: columns that are the same or opposite: FREE is 1");
        Script.run(CHECKS, """
            columns 3; row 98 -8 -8 8; row 99 9 9 -9; row 99 -9 -9 9; row 99 9 9 -9; row 99 -9 -9 9
            row 99 8 8 -8; row 99 -9 -9 9; row 98 9 9 -9; row 99 -9 -9 9; row 99 9 9 -9; row 99 -8 -8 8
            row 99 9 9 -9; row 99 -9 -9 9; row 99 9 9 -9; row 98 -9 -9 9; row 99 8 8 -8; row 99 -9 -9 9
            row 99 9 9 -9; row 99 -9 -9 9; row 99 9 9 -9; row 99 -8 -8 8; row 98 9 9 -9; row 99 -9 -9 9
            row 99 9 9 -9; free = 1; weight 0 = 98/5577; weight 1 = 98/5577; weight 2 = -98/5577
            sum = 435806920/1859; miss 0 = 182966/1859; pull 0 = 64/1859; without 0 0 = 294/1795
            far 0 0 = none; without 0 1 = 294/1795; far 0 1 = none; without 0 2 = -294/1795; far 0 2 = none
            miss 11 = 183159/1859; pull 11 = 81/1859; without 11 0 = -793/5334; far 11 0 = none
            without 11 1 = -793/5334; far 11 1 = none; without 11 2 = 793/5334; far 11 2 = none
            miss 23 = 183159/1859; pull 23 = 81/1859; without 23 0 = -793/5334; far 23 0 = none
            without 23 1 = -793/5334; far 23 1 = none; without 23 2 = 793/5334; far 23 2 = none
            few 0 = 234436/1; few 0 = 0; few 1 = 435806920/1859; few 1 = 1; few 2 = 435806920/1859
            few 2 = 3; few 3 = 435806920/1859; few 3 = 7; half 0 = none; half 24 = none; sizes = none
            sized 0 = none; level = none; barred 0 0 = none; barred 50000 0 = none; cost 0 = none
            cost 50000 = none; corner 0 = none; corners = -1
            """);
    }

    private static void tenThere() {
        CHECKS.sentence("What it is", "all exact: ten of 24 are THERE, the first and the last among them");
        Script.run(CHECKS, """
            columns 3; row 99 8 -9 9; row 98 -8 8 8; row 99 9 9 8; row 98 8 -9 8; row 98 -9 -9 -9
            row -99 8 -8 8; row -98 -9 9 8; row 99 -8 9 -8; row 99 -9 9 -8; row 99 9 -9 -8; row -98 8 -9 -8
            row -99 -8 -9 9; row 98 -8 8 8; row 98 -9 -9 -8; row -98 -8 -8 8; row 99 9 8 9; row -98 9 9 -9
            row 99 -8 -9 -9; row 98 -8 8 9; row -98 9 8 -9; row -99 8 -9 -8; row 99 8 -9 9; row -99 -8 8 9
            row 99 -8 9 9; drop 1; drop 2; drop 4; drop 5; drop 7; drop 8; drop 10; drop 11; drop 13
            drop 14; drop 16; drop 17; drop 19; drop 20; free = 3; weight 0 = 231980594/38933381
            weight 1 = -31054463/116800143; weight 2 = 696304592/116800143; sum = 6413583054260/116800143
            miss 0 = -183517198/38933381; pull 0 = 13406591/38933381; without 0 0 = 75932407/12763395
            far 0 0 = 231980594/49637; without 0 1 = -5241571/12763395; far 0 1 = -31054463/2352432
            without 0 2 = 77855701/12763395; far 0 2 = -696304592/2248797; miss 11 = -4180637132/38933381
            pull 11 = none; without 11 0 = none; far 11 0 = none; miss 23 = 3714499084/38933381
            pull 23 = 6705803/38933381; without 23 0 = 109186252/16113789; far 23 0 = 231980594/276163
            without 23 1 = -10117345/16113789; far 23 1 = 31054463/366834; without 23 2 = 78062410/16113789
            far 23 2 = -696304592/1131999; few 0 = 97222/1; few 0 = 0; few 1 = 55181106/691; few 1 = 1
            few 2 = 27161456123/494497; few 2 = 5; few 3 = 6413583054260/116800143; few 3 = 7; half 0 = 0/1
            half 0 = 0; half 1 = 0/1; half 1 = 1; half 2 = 0/1; half 2 = 9; half 3 = 0/1; half 3 = 73
            half 4 = 0/1; half 4 = 2097225; half 5 = 249640/3965257; half 5 = 2129993
            half 6 = 4556177/7922104; half 6 = 2130505; half 7 = 6428437088/59386051; half 7 = 6324809
            half 8 = 6717305281/276934; half 8 = 14942793; half 9 = 14142090105/338054; half 9 = 14946889
            half 10 = 6413583054260/116800143; half 10 = 14979657; half 11 = none; sizes = 743805/1309
            sized 0 = 837/77; sized 1 = -837/1309; sized 2 = 914/1309; level = 1872/19
            barred 0 0 = 231980594/38933381; barred 0 1 = -31054463/116800143
            barred 0 2 = 696304592/116800143; cost 0 = 6413583054260/116800143
            barred 1 0 = 231974516/38933381; barred 1 1 = -61890473/233600286
            barred 1 2 = 1392365351/233600286; cost 1 = 12830012460817/233600286
            barred 7 0 = 231938048/38933381; barred 7 1 = -60579755/233600286
            barred 7 2 = 1390902353/233600286; cost 7 = 12847080100765/233600286
            barred 499 0 = 5660643/988994; barred 499 1 = 0/1; barred 499 2 = 2712530/494497
            cost 499 = 120133404789/1977988; barred 2000 0 = 2172133/494497; barred 2000 1 = 0/1
            barred 2000 2 = 2092617/494497; cost 2000 = 37393956123/494497; barred 50000 0 = 0/1
            barred 50000 1 = 0/1; barred 50000 2 = 0/1; cost 50000 = 97222/1; corners = 3; corner 0 = 7094/1
            corner 1 = 6098266/877; corner 2 = 62108926/218453; corner 3 = none
            """);
    }

    private static void elevenThere() {
        CHECKS.sentence("What it is", "all exact: eleven of 24 are THERE: too many for half");
        Script.run(CHECKS, """
            columns 2; row 99 8 -9 0; row 98 -8 8 0; row 99 9 9 0; row 98 8 -9 0; row 98 -9 -9 0
            row -99 8 -8 0; row -98 -9 9 0; row 99 -8 9 0; row 99 -9 9 0; row 99 9 -9 0; row -98 8 -9 0
            row -99 -8 -9 0; row 98 -8 8 0; row 98 -9 -9 0; row -98 -8 -8 0; row 99 9 8 0; row -98 9 9 0
            row 99 -8 -9 0; row 98 -8 8 0; row -98 9 8 0; row -99 8 -9 0; row 99 8 -9 0; row -99 -8 8 0
            row 99 -8 9 0; drop 1; drop 2; drop 4; drop 5; drop 7; drop 8; drop 10; drop 11; drop 13
            drop 14; drop 16; drop 17; drop 19; free = 2; weight 0 = 1501202/209201
            weight 1 = 894739/209201; sum = 19350688172/209201; miss 0 = 16753934/209201
            pull 0 = 21379/209201; without 0 0 = 641620/93911; far 0 0 = -750601/403
            without 0 1 = 468082/93911; far 0 1 = 894739/1659; miss 11 = -648632/209201; pull 11 = none
            without 11 0 = none; far 11 0 = none; miss 23 = 24667864/209201; pull 23 = 21379/209201
            without 23 0 = 721414/93911; far 23 0 = 750601/403; without 23 1 = 303841/93911
            far 23 1 = -894739/1659; few 0 = 107023/1; few 0 = 0; few 1 = 73662781/755; few 1 = 1
            few 2 = 19350688172/209201; few 2 = 3; half 0 = none; half 11 = none; sizes = 790/1
            sized 0 = 11/1; sized 1 = 0/1; level = 99/1; barred 0 0 = 1501202/209201
            barred 0 1 = 894739/209201; cost 0 = 19350688172/209201; barred 7 0 = 2992149/418402
            barred 7 1 = 1779699/418402; cost 7 = 38734849399/418402; barred 50000 0 = 0/1
            barred 50000 1 = 0/1; cost 50000 = 107023/1; corners = 2; corner 0 = 5344/1
            corner 1 = 1789478/1397; corner 2 = none
            """);
    }

    private static void againstEachOther() {
        CHECKS.sentence("What it is", "all exact: like rows told against each other: the greatest misses");
        Script.run(CHECKS, """
            columns 3; row -99 9 -9 8; row 99 9 -9 9; row -99 9 -9 9; row 99 9 -9 9; row -99 9 -9 9
            row 98 9 -9 9; row -99 9 -9 9; row 99 9 -9 9; row -99 9 -9 9; row 99 9 -9 9; row -99 9 -9 9
            row 99 9 -9 9; row -99 9 -9 9; row 99 9 -9 9; row -99 9 -9 9; row 99 9 -9 9; row -99 9 -9 9
            row 99 9 -9 9; row -99 9 -9 9; row 99 9 -9 9; row -99 9 -9 9; row 99 9 -9 9; row 99 9 -8 9
            row 99 9 -8 9; free = 3; weight 0 = -238/27; weight 1 = 283/3; weight 2 = 311/3; sum = 615500/3
            miss 0 = 0/1; pull 0 = 1/1; without 0 0 = 2561/54; far 0 0 = 238/27; without 0 1 = 283/3
            far 0 1 = none; without 0 2 = 2561/54; far 0 2 = 311/3; miss 11 = 283/3; pull 11 = 1/21
            without 11 0 = 17/180; far 11 0 = -98/1; without 11 1 = 1981/20; far 11 1 = 1981/1
            without 11 2 = 1979/20; far 11 2 = -2177/1; miss 23 = 0/1; pull 23 = 1/2; without 23 0 = -238/27
            far 23 0 = 476/27; without 23 1 = 283/3; far 23 1 = -566/3; without 23 2 = 311/3
            far 23 2 = none; few 0 = 235027/1; few 0 = 0; few 1 = 449392645/1927; few 1 = 4
            few 2 = 1165816172/5681; few 2 = 6; few 3 = 615500/3; few 3 = 7; half 0 = none; half 24 = none
            sizes = 1980/1; sized 0 = -1666/9; sized 1 = 1/1; sized 2 = 197/1; level = 99/1
            barred 0 0 = -238/27; barred 0 1 = 283/3; barred 0 2 = 311/3; cost 0 = 615500/3
            barred 1 0 = -26297/3402; barred 1 1 = 35675/378; barred 1 2 = 38791/378
            cost 1 = 1397354075/6804; barred 7 0 = -593/486; barred 7 1 = 5111/54; barred 7 2 = 5203/54
            cost 7 = 200779517/972; barred 4999 0 = 0/1; barred 4999 1 = 0/1; barred 4999 2 = 0/1
            cost 4999 = 235027/1; barred 50000 0 = 0/1; barred 50000 1 = 0/1; barred 50000 2 = 0/1
            cost 50000 = 235027/1; corners = 3; corner 0 = 3744/1; corner 1 = 553599/1922
            corner 2 = 29988/3691; corner 3 = none
            """);
    }
}
