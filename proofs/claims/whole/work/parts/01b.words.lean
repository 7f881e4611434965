set_option maxRecDepth 20000 in
theorem ggX1_init_X2_init : GoodIn wsX1_init wsX2_init := goodIn_r _ [16, 17, 2, 3, 18, 19, 20, 21, 22, 23, 24, 25, 26, 27, 28, 29, 6, 30, 31, 32, 33, 34, 35, 36, 37, 38, 46, 47, 48, 49, 50, 51, 52] (by decide +kernel) (by decide +kernel)
set_option maxRecDepth 20000 in
theorem gX1_init_X2_init : GoodIn wsX1_init (wsX2_init) := ggX1_init_X2_init
set_option maxRecDepth 20000 in
theorem ggX1_init_X4_init : GoodIn wsX1_init wsX4_init := goodIn_r _ [41, 42, 2, 3, 43, 19, 44, 45, 57, 58, 59] (by decide +kernel) (by decide +kernel)
set_option maxRecDepth 20000 in
theorem gX1_init_X4_init : GoodIn wsX1_init (wsX4_init) := ggX1_init_X4_init
set_option maxRecDepth 20000 in
theorem ggX1_become_X2_become : GoodIn wsX1_become wsX2_become := goodIn_r _ [9, 10, 11, 12, 13, 14, 15, 16, 17, 18, 19, 37, 38, 39, 40, 41, 42, 43] (by decide +kernel) (by decide +kernel)
set_option maxRecDepth 20000 in
theorem gX1_become_X2_become : GoodIn wsX1_become (wsV RX1 31 RX2 yX2_become wsX2_become) := goodIn_app (goodIn_of _ (by decide +kernel)) ggX1_become_X2_become
set_option maxRecDepth 20000 in
theorem ggX1_become_X4_become : GoodIn wsX1_become wsX4_become := goodIn_r _ [24, 25, 26, 27, 28, 29, 30, 31, 14, 15, 16, 32, 44, 45, 46] (by decide +kernel) (by decide +kernel)
set_option maxRecDepth 20000 in
theorem gX1_become_X4_become : GoodIn wsX1_become (wsV RX1 35 RX4 yX4_become wsX4_become) := goodIn_app (goodIn_of _ (by decide +kernel)) ggX1_become_X4_become
set_option maxRecDepth 20000 in
theorem ggX2_init_X2_becomeEmpty : GoodIn wsX2_init wsX2_becomeEmpty := goodIn_r _ [17, 10, 6, 18, 19, 20, 16, 21, 9, 22, 23, 24, 25, 7, 8, 26, 27, 28, 29, 30, 31, 32] (by decide +kernel) (by decide +kernel)
set_option maxRecDepth 20000 in
theorem gX2_init_X2_becomeEmpty : GoodIn wsX2_init (wsV RX2 36 RX2 yX2_becomeEmpty wsX2_becomeEmpty) := goodIn_app (goodIn_of _ (by decide +kernel)) ggX2_init_X2_becomeEmpty
set_option maxRecDepth 20000 in
theorem ggX2_becomeEmpty_X2_startAnew : GoodIn wsX2_becomeEmpty wsX2_startAnew := goodIn_r _ [7, 8, 9, 10, 11, 6, 12, 13, 14, 15, 16, 17, 18, 19, 20, 21] (by decide +kernel) (by decide +kernel)
set_option maxRecDepth 20000 in
theorem gX2_becomeEmpty_X2_startAnew : GoodIn wsX2_becomeEmpty (wsV RX2 40 RX2 yX2_startAnew wsX2_startAnew) := goodIn_app (goodIn_of _ (by decide +kernel)) ggX2_becomeEmpty_X2_startAnew
set_option maxRecDepth 20000 in
theorem ggX2_startAnew_X2_takeAllAway : GoodIn wsX2_startAnew wsX2_takeAllAway := goodIn_r _ [6, 7, 8, 9, 10, 11, 12, 13, 14, 15] (by decide +kernel) (by decide +kernel)
set_option maxRecDepth 20000 in
theorem gX2_startAnew_X2_takeAllAway : GoodIn wsX2_startAnew (wsV RX2 49 RX2 yX2_takeAllAway wsX2_takeAllAway) := goodIn_app (goodIn_of _ (by decide +kernel)) ggX2_startAnew_X2_takeAllAway
set_option maxRecDepth 20000 in
theorem ggX2_becomeWorth_X2_giveUp : GoodIn wsX2_becomeWorth wsX2_giveUp := goodIn_r _ [6, 7, 8, 9, 10, 11, 12, 13, 14, 15] (by decide +kernel) (by decide +kernel)
set_option maxRecDepth 20000 in
theorem gX2_becomeWorth_X2_giveUp : GoodIn wsX2_becomeWorth (wsV RX2 52 RX2 yX2_giveUp wsX2_giveUp) := goodIn_app (goodIn_of _ (by decide +kernel)) ggX2_becomeWorth_X2_giveUp
set_option maxRecDepth 20000 in
theorem ggX2_bestOf_X2_bestBut : GoodIn wsX2_bestOf wsX2_bestBut := goodIn_r _ [5, 6, 7, 8, 9, 4, 10, 11, 12, 13, 14, 15, 16, 17, 18, 19, 20, 21, 22, 23] (by decide +kernel) (by decide +kernel)
set_option maxRecDepth 20000 in
theorem gX2_bestOf_X2_bestBut : GoodIn wsX2_bestOf (wsV RX2 55 RX2 yX2_bestBut wsX2_bestBut) := goodIn_app (goodIn_of _ (by decide +kernel)) ggX2_bestOf_X2_bestBut
set_option maxRecDepth 20000 in
theorem ggX2_bestBut_X2_allows : GoodIn wsX2_bestBut wsX2_allows := goodIn_r _ [6, 7, 13, 14, 15, 16, 17, 18, 19] (by decide +kernel) (by decide +kernel)
set_option maxRecDepth 20000 in
theorem gX2_bestBut_X2_allows : GoodIn wsX2_bestBut (wsV RX2 59 RX2 yX2_allows wsX2_allows) := goodIn_app (goodIn_of _ (by decide +kernel)) ggX2_bestBut_X2_allows
set_option maxRecDepth 20000 in
theorem ggX2_bestBut_X2_gainOf : GoodIn wsX2_bestBut wsX2_gainOf := goodIn_r _ [11, 1, 7, 12, 13, 14, 15, 16, 17, 18, 19] (by decide +kernel) (by decide +kernel)
set_option maxRecDepth 20000 in
theorem gX2_bestBut_X2_gainOf : GoodIn wsX2_bestBut (wsV RX2 63 RX2 yX2_gainOf wsX2_gainOf) := goodIn_app (goodIn_of _ (by decide +kernel)) ggX2_bestBut_X2_gainOf
set_option maxRecDepth 20000 in
theorem ggX2_offerFor_X2_bestBut : GoodIn wsX2_offerFor wsX2_bestBut := goodIn_r _ [7, 8, 9, 10, 11, 6, 12, 13, 14, 15, 16, 17, 1, 18, 19, 20, 21, 22, 23, 24] (by decide +kernel) (by decide +kernel)
set_option maxRecDepth 20000 in
theorem gX2_offerFor_X2_bestBut : GoodIn wsX2_offerFor (wsV RX2 55 RX2 yX2_bestBut wsX2_bestBut) := goodIn_app (goodIn_of _ (by decide +kernel)) ggX2_offerFor_X2_bestBut
set_option maxRecDepth 20000 in
theorem ggX2_offerFor_X2_gainOf : GoodIn wsX2_offerFor wsX2_gainOf := goodIn_r _ [17, 8, 13, 1, 18, 19, 20, 21, 22, 23, 24] (by decide +kernel) (by decide +kernel)
set_option maxRecDepth 20000 in
theorem gX2_offerFor_X2_gainOf : GoodIn wsX2_offerFor (wsV RX2 63 RX2 yX2_gainOf wsX2_gainOf) := goodIn_app (goodIn_of _ (by decide +kernel)) ggX2_offerFor_X2_gainOf
set_option maxRecDepth 20000 in
theorem ggX2_nextBidder_X2_hasBest : GoodIn wsX2_nextBidder wsX2_hasBest := goodIn_r _ [7, 1, 8, 9, 10, 6, 11, 12, 13, 14, 15, 16, 17, 18, 19] (by decide +kernel) (by decide +kernel)
set_option maxRecDepth 20000 in
theorem gX2_nextBidder_X2_hasBest : GoodIn wsX2_nextBidder (wsV RX2 66 RX2 yX2_hasBest wsX2_hasBest) := goodIn_app (goodIn_of _ (by decide +kernel)) ggX2_nextBidder_X2_hasBest
set_option maxRecDepth 20000 in
theorem ggX2_nextOffer_X2_nextBidder : GoodIn wsX2_nextOffer wsX2_nextBidder := goodIn_r _ [5, 6, 7, 8, 9, 10, 4, 11, 12, 13, 14, 15, 16, 35, 36, 37, 38, 39, 40, 41] (by decide +kernel) (by decide +kernel)
set_option maxRecDepth 20000 in
theorem gX2_nextOffer_X2_nextBidder : GoodIn wsX2_nextOffer (wsV RX2 70 RX2 yX2_nextBidder wsX2_nextBidder) := goodIn_app (goodIn_of _ (by decide +kernel)) ggX2_nextOffer_X2_nextBidder
set_option maxRecDepth 20000 in
theorem ggX2_nextOffer_X2_bestOf : GoodIn wsX2_nextOffer wsX2_bestOf := goodIn_r _ [20, 21, 22, 23, 4, 24, 6, 12, 13, 14, 15, 16, 25, 26, 27, 28, 29, 35, 36, 37, 38, 39, 40, 41] (by decide +kernel) (by decide +kernel)
set_option maxRecDepth 20000 in
theorem gX2_nextOffer_X2_bestOf : GoodIn wsX2_nextOffer (wsV RX2 74 RX2 yX2_bestOf wsX2_bestOf) := goodIn_app (goodIn_of _ (by decide +kernel)) ggX2_nextOffer_X2_bestOf
set_option maxRecDepth 20000 in
theorem ggX2_nextOffer_X2_offerFor : GoodIn wsX2_nextOffer wsX2_offerFor := goodIn_r _ [33, 29, 34, 21, 22, 23, 4, 24, 6, 12, 13, 14, 15, 16, 25, 26, 27, 28, 35, 36, 37, 38, 39, 40, 41] (by decide +kernel) (by decide +kernel)
set_option maxRecDepth 20000 in
theorem gX2_nextOffer_X2_offerFor : GoodIn wsX2_nextOffer (wsV RX2 78 RX2 yX2_offerFor wsX2_offerFor) := goodIn_app (goodIn_of _ (by decide +kernel)) ggX2_nextOffer_X2_offerFor
set_option maxRecDepth 20000 in
theorem ggX2_letNextBid_X2_nextBidder : GoodIn wsX2_letNextBid wsX2_nextBidder := goodIn_r _ [8, 9, 3, 10, 11, 12, 7, 13, 14, 15, 16, 17, 18, 36, 37, 38, 39, 40, 41, 42] (by decide +kernel) (by decide +kernel)
set_option maxRecDepth 20000 in
theorem gX2_letNextBid_X2_nextBidder : GoodIn wsX2_letNextBid (wsV RX2 70 RX2 yX2_nextBidder wsX2_nextBidder) := goodIn_app (goodIn_of _ (by decide +kernel)) ggX2_letNextBid_X2_nextBidder
set_option maxRecDepth 20000 in
theorem ggX2_letNextBid_X2_bestOf : GoodIn wsX2_letNextBid wsX2_bestOf := goodIn_r _ [22, 23, 24, 25, 7, 26, 9, 14, 15, 16, 17, 18, 27, 28, 29, 30, 1, 36, 37, 38, 39, 40, 41, 42] (by decide +kernel) (by decide +kernel)
set_option maxRecDepth 20000 in
theorem gX2_letNextBid_X2_bestOf : GoodIn wsX2_letNextBid (wsV RX2 74 RX2 yX2_bestOf wsX2_bestOf) := goodIn_app (goodIn_of _ (by decide +kernel)) ggX2_letNextBid_X2_bestOf
set_option maxRecDepth 20000 in
theorem ggX2_letNextBid_X2_offerFor : GoodIn wsX2_letNextBid wsX2_offerFor := goodIn_r _ [34, 1, 35, 23, 24, 25, 7, 26, 9, 14, 15, 16, 17, 18, 27, 28, 29, 30, 36, 37, 38, 39, 40, 41, 42] (by decide +kernel) (by decide +kernel)
set_option maxRecDepth 20000 in
theorem gX2_letNextBid_X2_offerFor : GoodIn wsX2_letNextBid (wsV RX2 78 RX2 yX2_offerFor wsX2_offerFor) := goodIn_app (goodIn_of _ (by decide +kernel)) ggX2_letNextBid_X2_offerFor
set_option maxRecDepth 20000 in
theorem ggX2_runAuction_X2_letNextBid : GoodIn wsX2_runAuction wsX2_letNextBid := goodIn_r _ [9, 3, 4, 10, 11, 12, 13, 8, 14, 15, 16, 17, 18, 19, 20, 21, 22, 23, 24, 25, 26, 27, 28, 29, 30, 31, 32, 33, 34, 35, 36, 37, 38, 39, 40, 41, 42, 43, 44, 45, 46, 47, 48] (by decide +kernel) (by decide +kernel)
set_option maxRecDepth 20000 in
theorem gX2_runAuction_X2_letNextBid : GoodIn wsX2_runAuction (wsV RX2 81 RX2 yX2_letNextBid wsX2_letNextBid) := goodIn_app (goodIn_of _ (by decide +kernel)) ggX2_runAuction_X2_letNextBid
set_option maxRecDepth 20000 in
theorem ggX2_runScaled_X2_takeAllAway : GoodIn wsX2_runScaled wsX2_takeAllAway := goodIn_r _ [8, 9, 10, 51, 52, 53, 54, 55, 56, 57] (by decide +kernel) (by decide +kernel)
set_option maxRecDepth 20000 in
theorem gX2_runScaled_X2_takeAllAway : GoodIn wsX2_runScaled (wsV RX2 49 RX2 yX2_takeAllAway wsX2_takeAllAway) := goodIn_app (goodIn_of _ (by decide +kernel)) ggX2_runScaled_X2_takeAllAway
set_option maxRecDepth 20000 in
theorem ggX2_runScaled_X2_runAuction : GoodIn wsX2_runScaled wsX2_runAuction := goodIn_r _ [14, 2, 15, 16, 10, 17, 18, 19, 7, 20, 9, 21, 22, 23, 24, 25, 26, 27, 28, 29, 30, 31, 32, 33, 34, 35, 36, 37, 38, 39, 40, 41, 42, 43, 44, 45, 46, 47, 48, 49, 50, 1, 51, 52, 53, 54, 55, 56, 57] (by decide +kernel) (by decide +kernel)
set_option maxRecDepth 20000 in
theorem gX2_runScaled_X2_runAuction : GoodIn wsX2_runScaled (wsV RX2 88 RX2 yX2_runAuction wsX2_runAuction) := goodIn_app (goodIn_of _ (by decide +kernel)) ggX2_runScaled_X2_runAuction
set_option maxRecDepth 20000 in
theorem ggX2_hasBest_X2_allows : GoodIn wsX2_hasBest wsX2_allows := goodIn_r _ [6, 7, 8, 9, 10, 11, 12, 13, 14] (by decide +kernel) (by decide +kernel)
set_option maxRecDepth 20000 in
theorem gX2_hasBest_X2_allows : GoodIn wsX2_hasBest (wsV RX2 59 RX2 yX2_allows wsX2_allows) := goodIn_app (goodIn_of _ (by decide +kernel)) ggX2_hasBest_X2_allows
set_option maxRecDepth 20000 in
theorem ggX2_allowedTo_X2_allows : GoodIn wsX2_allowedTo wsX2_allows := goodIn_r _ [6, 7, 8, 9, 10, 11, 12, 13, 14] (by decide +kernel) (by decide +kernel)
set_option maxRecDepth 20000 in
theorem gX2_allowedTo_X2_allows : GoodIn wsX2_allowedTo (wsV RX2 59 RX2 yX2_allows wsX2_allows) := goodIn_app (goodIn_of _ (by decide +kernel)) ggX2_allowedTo_X2_allows
set_option maxRecDepth 20000 in
theorem ggX2_wantersOf_X2_bestOf : GoodIn wsX2_wantersOf wsX2_bestOf := goodIn_r _ [6, 7, 8, 9, 5, 10, 1, 11, 12, 13, 14, 15, 16, 17, 18, 19, 20, 21, 22, 23, 24, 25, 26, 27] (by decide +kernel) (by decide +kernel)
set_option maxRecDepth 20000 in
theorem gX2_wantersOf_X2_bestOf : GoodIn wsX2_wantersOf (wsV RX2 74 RX2 yX2_bestOf wsX2_bestOf) := goodIn_app (goodIn_of _ (by decide +kernel)) ggX2_wantersOf_X2_bestOf
set_option maxRecDepth 20000 in
theorem ggX2_ownGain_X2_gainOf : GoodIn wsX2_ownGain wsX2_gainOf := goodIn_r _ [6, 7, 8, 9, 10, 11, 12, 13, 14, 15, 16] (by decide +kernel) (by decide +kernel)
set_option maxRecDepth 20000 in
theorem gX2_ownGain_X2_gainOf : GoodIn wsX2_ownGain (wsV RX2 63 RX2 yX2_gainOf wsX2_gainOf) := goodIn_app (goodIn_of _ (by decide +kernel)) ggX2_ownGain_X2_gainOf
set_option maxRecDepth 20000 in
theorem ggX2_envyOf_X2_allows : GoodIn wsX2_envyOf wsX2_allows := goodIn_r _ [6, 7, 18, 19, 20, 21, 22, 23, 24] (by decide +kernel) (by decide +kernel)
set_option maxRecDepth 20000 in
theorem gX2_envyOf_X2_allows : GoodIn wsX2_envyOf (wsV RX2 59 RX2 yX2_allows wsX2_allows) := goodIn_app (goodIn_of _ (by decide +kernel)) ggX2_envyOf_X2_allows
set_option maxRecDepth 20000 in
theorem ggX2_envyOf_X2_gainOf : GoodIn wsX2_envyOf wsX2_gainOf := goodIn_r _ [11, 1, 7, 12, 18, 19, 20, 21, 22, 23, 24] (by decide +kernel) (by decide +kernel)
set_option maxRecDepth 20000 in
theorem gX2_envyOf_X2_gainOf : GoodIn wsX2_envyOf (wsV RX2 63 RX2 yX2_gainOf wsX2_gainOf) := goodIn_app (goodIn_of _ (by decide +kernel)) ggX2_envyOf_X2_gainOf
set_option maxRecDepth 20000 in
theorem ggX2_envyOf_X2_ownGain : GoodIn wsX2_envyOf wsX2_ownGain := goodIn_r _ [16, 17, 8, 9, 10, 5, 11, 1, 7, 12, 18, 19, 20, 21, 22, 23, 24] (by decide +kernel) (by decide +kernel)
set_option maxRecDepth 20000 in
theorem gX2_envyOf_X2_ownGain : GoodIn wsX2_envyOf (wsV RX2 91 RX2 yX2_ownGain wsX2_ownGain) := goodIn_app (goodIn_of _ (by decide +kernel)) ggX2_envyOf_X2_ownGain
set_option maxRecDepth 20000 in
theorem ggX2_isSure_X2_bestOf : GoodIn wsX2_isSure wsX2_bestOf := goodIn_r _ [8, 9, 10, 11, 7, 12, 1, 13, 14, 15, 16, 17, 18, 19, 20, 21, 22, 27, 28, 29, 30, 31, 32, 33] (by decide +kernel) (by decide +kernel)
set_option maxRecDepth 20000 in
theorem gX2_isSure_X2_bestOf : GoodIn wsX2_isSure (wsV RX2 74 RX2 yX2_bestOf wsX2_bestOf) := goodIn_app (goodIn_of _ (by decide +kernel)) ggX2_isSure_X2_bestOf
set_option maxRecDepth 20000 in
theorem ggX2_isSure_X2_gainOf : GoodIn wsX2_isSure wsX2_gainOf := goodIn_r _ [21, 1, 17, 22, 27, 28, 29, 30, 31, 32, 33] (by decide +kernel) (by decide +kernel)
set_option maxRecDepth 20000 in
theorem gX2_isSure_X2_gainOf : GoodIn wsX2_isSure (wsV RX2 63 RX2 yX2_gainOf wsX2_gainOf) := goodIn_app (goodIn_of _ (by decide +kernel)) ggX2_isSure_X2_gainOf
set_option maxRecDepth 20000 in
theorem ggX2_isSure_X2_ownGain : GoodIn wsX2_isSure wsX2_ownGain := goodIn_r _ [26, 2, 18, 19, 20, 7, 21, 1, 17, 22, 27, 28, 29, 30, 31, 32, 33] (by decide +kernel) (by decide +kernel)
set_option maxRecDepth 20000 in
theorem gX2_isSure_X2_ownGain : GoodIn wsX2_isSure (wsV RX2 91 RX2 yX2_ownGain wsX2_ownGain) := goodIn_app (goodIn_of _ (by decide +kernel)) ggX2_isSure_X2_ownGain
set_option maxRecDepth 20000 in
theorem ggX2_forbiddenCounted_X2_allowedTo : GoodIn wsX2_forbiddenCounted wsX2_allowedTo := goodIn_r _ [6, 1, 7, 8, 9, 5, 10, 11, 19, 20, 21, 22, 23, 24, 25] (by decide +kernel) (by decide +kernel)
set_option maxRecDepth 20000 in
theorem gX2_forbiddenCounted_X2_allowedTo : GoodIn wsX2_forbiddenCounted (wsV RX2 94 RX2 yX2_allowedTo wsX2_allowedTo) := goodIn_app (goodIn_of _ (by decide +kernel)) ggX2_forbiddenCounted_X2_allowedTo
set_option maxRecDepth 20000 in
theorem ggX2_forbiddenCounted_J6_bitCount_0f7a4 : GoodIn wsX2_forbiddenCounted wsJ6_bitCount_0f7a4 := goodIn_r _ [15, 16, 17, 18] (by decide +kernel) (by decide +kernel)
set_option maxRecDepth 20000 in
theorem gX2_forbiddenCounted_J6_bitCount_0f7a4 : GoodIn wsX2_forbiddenCounted (va_wsS RX2 97 yJ6_bitCount_0f7a4 wsJ6_bitCount_0f7a4) := goodIn_app (goodIn_of _ (by decide +kernel)) ggX2_forbiddenCounted_J6_bitCount_0f7a4
set_option maxRecDepth 20000 in
theorem ggX3_mostWorth_X3_mostOfSet : GoodIn wsX3_mostWorth wsX3_mostOfSet := goodIn_r _ [7, 1, 2, 8, 9, 10, 11, 12, 13, 14, 15, 16, 17, 18, 19, 20, 21, 22, 23, 24, 25, 26, 27, 28, 29, 30, 31, 32, 33] (by decide +kernel) (by decide +kernel)
set_option maxRecDepth 20000 in
theorem gX3_mostWorth_X3_mostOfSet : GoodIn wsX3_mostWorth (wsV RX3 21 RX3 yX3_mostOfSet wsX3_mostOfSet) := goodIn_app (goodIn_of _ (by decide +kernel)) ggX3_mostWorth_X3_mostOfSet
set_option maxRecDepth 20000 in
theorem ggX3_mostOfSet_J6_bitCount_0f7a4 : GoodIn wsX3_mostOfSet wsJ6_bitCount_0f7a4 := goodIn_r _ [11, 12, 13, 14] (by decide +kernel) (by decide +kernel)
set_option maxRecDepth 20000 in
theorem gX3_mostOfSet_J6_bitCount_0f7a4 : GoodIn wsX3_mostOfSet (va_wsS RX3 25 yJ6_bitCount_0f7a4 wsJ6_bitCount_0f7a4) := goodIn_app (goodIn_of _ (by decide +kernel)) ggX3_mostOfSet_J6_bitCount_0f7a4
set_option maxRecDepth 20000 in
theorem ggX3_mostOfSet_X2_allows : GoodIn wsX3_mostOfSet wsX2_allows := goodIn_r _ [19, 20, 21, 22, 23, 24, 25, 26, 27] (by decide +kernel) (by decide +kernel)
set_option maxRecDepth 20000 in
theorem gX3_mostOfSet_X2_allows : GoodIn wsX3_mostOfSet (wsV RX3 31 RX2 yX2_allows wsX2_allows) := goodIn_app (goodIn_of _ (by decide +kernel)) ggX3_mostOfSet_X2_allows
set_option maxRecDepth 20000 in
theorem ggX3_leastLacking_J6_bitCount_0f7a4 : GoodIn wsX3_leastLacking wsJ6_bitCount_0f7a4 := goodIn_r _ [5, 6, 7, 8] (by decide +kernel) (by decide +kernel)
set_option maxRecDepth 20000 in
theorem gX3_leastLacking_J6_bitCount_0f7a4 : GoodIn wsX3_leastLacking (va_wsS RX3 25 yJ6_bitCount_0f7a4 wsJ6_bitCount_0f7a4) := goodIn_app (goodIn_of _ (by decide +kernel)) ggX3_leastLacking_J6_bitCount_0f7a4
set_option maxRecDepth 20000 in
theorem ggX3_leastLacking_X3_allowedToSome : GoodIn wsX3_leastLacking wsX3_allowedToSome := goodIn_r _ [13, 1, 14, 15, 16, 17, 18, 19, 20, 21, 22, 23, 24, 25, 26, 27, 28, 29, 30, 31] (by decide +kernel) (by decide +kernel)
set_option maxRecDepth 20000 in
theorem gX3_leastLacking_X3_allowedToSome : GoodIn wsX3_leastLacking (wsV RX3 45 RX3 yX3_allowedToSome wsX3_allowedToSome) := goodIn_app (goodIn_of _ (by decide +kernel)) ggX3_leastLacking_X3_allowedToSome
set_option maxRecDepth 20000 in
theorem ggX3_allowedToSome_X2_allowedTo : GoodIn wsX3_allowedToSome wsX2_allowedTo := goodIn_r _ [6, 7, 8, 9, 10, 5, 11, 12, 13, 14, 15, 16, 17, 18, 19] (by decide +kernel) (by decide +kernel)
set_option maxRecDepth 20000 in
theorem gX3_allowedToSome_X2_allowedTo : GoodIn wsX3_allowedToSome (wsV RX3 48 RX2 yX2_allowedTo wsX2_allowedTo) := goodIn_app (goodIn_of _ (by decide +kernel)) ggX3_allowedToSome_X2_allowedTo
set_option maxRecDepth 20000 in
theorem ggX6_findClauses_X6_findClause : GoodIn wsX6_findClauses wsX6_findClause := goodIn_r _ [9, 2, 3, 10, 11, 12, 13, 14, 15, 8, 16, 1, 17, 18, 19, 20, 4, 21, 22, 23, 24, 25, 26, 27, 28, 29, 30, 31, 32, 37, 38, 39, 40, 41, 42, 43, 44] (by decide +kernel) (by decide +kernel)
set_option maxRecDepth 20000 in
theorem gX6_findClauses_X6_findClause : GoodIn wsX6_findClauses (wsV RX6 37 RX6 yX6_findClause wsX6_findClause) := goodIn_app (goodIn_of _ (by decide +kernel)) ggX6_findClauses_X6_findClause
set_option maxRecDepth 20000 in
theorem ggX6_findClauses_X6_passBetween : GoodIn wsX6_findClauses wsX6_passBetween := goodIn_r _ [36, 3, 1, 2, 17, 18, 19, 8, 20, 4, 21, 37, 38, 39, 40, 41, 42, 43, 44] (by decide +kernel) (by decide +kernel)
set_option maxRecDepth 20000 in
theorem gX6_findClauses_X6_passBetween : GoodIn wsX6_findClauses (wsV RX6 41 RX6 yX6_passBetween wsX6_passBetween) := goodIn_app (goodIn_of _ (by decide +kernel)) ggX6_findClauses_X6_passBetween
set_option maxRecDepth 20000 in
theorem ggX6_passBetween_X6_sign : GoodIn wsX6_passBetween wsX6_sign := goodIn_r _ [8, 2, 9, 10, 11, 12, 13, 14, 15, 16, 17, 18] (by decide +kernel) (by decide +kernel)
set_option maxRecDepth 20000 in
theorem gX6_passBetween_X6_sign : GoodIn wsX6_passBetween (wsV RX6 44 RX6 yX6_sign wsX6_sign) := goodIn_app (goodIn_of _ (by decide +kernel)) ggX6_passBetween_X6_sign
set_option maxRecDepth 20000 in
theorem ggX6_findClause_X6_findNumber : GoodIn wsX6_findClause wsX6_findNumber := goodIn_r _ [10, 1, 11, 12, 13, 14, 9, 15, 16, 17, 29, 30, 31, 32, 33, 34, 35, 36] (by decide +kernel) (by decide +kernel)
set_option maxRecDepth 20000 in
theorem gX6_findClause_X6_findNumber : GoodIn wsX6_findClause (wsV RX6 50 RX6 yX6_findNumber wsX6_findNumber) := goodIn_app (goodIn_of _ (by decide +kernel)) ggX6_findClause_X6_findNumber
set_option maxRecDepth 20000 in
theorem ggX6_findClause_X6_findWorth : GoodIn wsX6_findClause wsX6_findWorth := goodIn_r _ [21, 11, 1, 12, 13, 14, 9, 15, 16, 17, 22, 23, 24, 25, 26, 27, 28, 29, 30, 31, 32, 33, 34, 35, 36] (by decide +kernel) (by decide +kernel)
set_option maxRecDepth 20000 in
theorem gX6_findClause_X6_findWorth : GoodIn wsX6_findClause (wsV RX6 54 RX6 yX6_findWorth wsX6_findWorth) := goodIn_app (goodIn_of _ (by decide +kernel)) ggX6_findClause_X6_findWorth
set_option maxRecDepth 20000 in
theorem ggX6_findNumber_X6_sign : GoodIn wsX6_findNumber wsX6_sign := goodIn_r _ [7, 2, 8, 9, 10, 11, 12, 13, 14, 15, 16, 17] (by decide +kernel) (by decide +kernel)
set_option maxRecDepth 20000 in
theorem gX6_findNumber_X6_sign : GoodIn wsX6_findNumber (wsV RX6 44 RX6 yX6_sign wsX6_sign) := goodIn_app (goodIn_of _ (by decide +kernel)) ggX6_findNumber_X6_sign
set_option maxRecDepth 20000 in
theorem ggX6_findWorth_X6_sign : GoodIn wsX6_findWorth wsX6_sign := goodIn_r _ [7, 1, 8, 9, 17, 18, 19, 20, 21, 22, 23, 24] (by decide +kernel) (by decide +kernel)
set_option maxRecDepth 20000 in
theorem gX6_findWorth_X6_sign : GoodIn wsX6_findWorth (wsV RX6 44 RX6 yX6_sign wsX6_sign) := goodIn_app (goodIn_of _ (by decide +kernel)) ggX6_findWorth_X6_sign
set_option maxRecDepth 20000 in
theorem ggX6_findWorth_X6_isDigit : GoodIn wsX6_findWorth wsX6_isDigit := goodIn_r _ [12] (by decide +kernel) (by decide +kernel)
set_option maxRecDepth 20000 in
theorem gX6_findWorth_X6_isDigit : GoodIn wsX6_findWorth (va_wsS RX6 57 yX6_isDigit wsX6_isDigit) := goodIn_app (goodIn_of _ (by decide +kernel)) ggX6_findWorth_X6_isDigit
set_option maxRecDepth 20000 in
theorem ggX6_findWorth_X6_findDigits : GoodIn wsX6_findWorth wsX6_findDigits := goodIn_r _ [16, 1, 3, 4, 5, 6, 7, 8, 9, 10, 11, 12, 17, 18, 19, 20, 21, 22, 23, 24] (by decide +kernel) (by decide +kernel)
set_option maxRecDepth 20000 in
theorem gX6_findWorth_X6_findDigits : GoodIn wsX6_findWorth (wsV RX6 61 RX6 yX6_findDigits wsX6_findDigits) := goodIn_app (goodIn_of _ (by decide +kernel)) ggX6_findWorth_X6_findDigits
set_option maxRecDepth 20000 in
theorem ggX6_findDigits_X6_sign : GoodIn wsX6_findDigits wsX6_sign := goodIn_r _ [6, 1, 7, 8, 12, 13, 14, 15, 16, 17, 18, 19] (by decide +kernel) (by decide +kernel)
set_option maxRecDepth 20000 in
theorem gX6_findDigits_X6_sign : GoodIn wsX6_findDigits (wsV RX6 44 RX6 yX6_sign wsX6_sign) := goodIn_app (goodIn_of _ (by decide +kernel)) ggX6_findDigits_X6_sign
set_option maxRecDepth 20000 in
theorem ggX6_findDigits_X6_isDigit : GoodIn wsX6_findDigits wsX6_isDigit := goodIn_r _ [11] (by decide +kernel) (by decide +kernel)
set_option maxRecDepth 20000 in
theorem gX6_findDigits_X6_isDigit : GoodIn wsX6_findDigits (va_wsS RX6 57 yX6_isDigit wsX6_isDigit) := goodIn_app (goodIn_of _ (by decide +kernel)) ggX6_findDigits_X6_isDigit
set_option maxRecDepth 20000 in
theorem ggX7_init_X1_init : GoodIn wsX7_init wsX1_init := goodIn_r _ [31, 32, 2, 3, 33, 10, 11, 34, 35, 36, 37, 38, 39, 40, 41, 42, 43, 44, 45, 46, 47, 48, 49, 50, 51, 52, 53, 54, 55, 56, 57, 58, 59, 60, 61, 62, 63, 64, 65, 66, 67, 68, 69, 70, 71, 72, 114, 115, 116, 117, 118, 119, 120, 102, 103, 104, 105, 136, 137, 138] (by decide +kernel) (by decide +kernel)
set_option maxRecDepth 20000 in
theorem gX7_init_X1_init_n11 : GoodIn wsX7_init (wsX1_init) := ggX7_init_X1_init
set_option maxRecDepth 20000 in
theorem ggX7_init_X2_init : GoodIn wsX7_init wsX2_init := goodIn_r _ [43, 44, 2, 3, 45, 46, 47, 48, 49, 50, 51, 52, 53, 54, 55, 56, 11, 57, 58, 59, 60, 61, 62, 63, 64, 65, 114, 115, 116, 117, 118, 119, 120] (by decide +kernel) (by decide +kernel)
set_option maxRecDepth 20000 in
theorem gX7_init_X2_init : GoodIn wsX7_init (wsX2_init) := ggX7_init_X2_init
set_option maxRecDepth 20000 in
theorem ggX7_init_X3_init : GoodIn wsX7_init wsX3_init := goodIn_r _ [75, 76, 2, 3, 46, 77, 121] (by decide +kernel) (by decide +kernel)
set_option maxRecDepth 20000 in
theorem gX7_init_X3_init_n30 : GoodIn wsX7_init (wsX3_init) := ggX7_init_X3_init
set_option maxRecDepth 20000 in
theorem ggX7_init_X6_init : GoodIn wsX7_init wsX6_init := goodIn_r _ [79, 80, 2, 3, 46, 81, 82, 83, 84, 85, 86, 87, 88, 122, 123, 124, 125, 126, 127, 128, 129] (by decide +kernel) (by decide +kernel)
set_option maxRecDepth 20000 in
theorem gX7_init_X6_init_n37 : GoodIn wsX7_init (wsX6_init) := ggX7_init_X6_init
set_option maxRecDepth 20000 in
theorem ggX7_init_X0_init : GoodIn wsX7_init wsX0_init := goodIn_r _ [90, 91, 2, 3, 92, 93, 94, 130, 131, 132] (by decide +kernel) (by decide +kernel)
set_option maxRecDepth 20000 in
theorem gX7_init_X0_init_n44 : GoodIn wsX7_init (wsX0_init) := ggX7_init_X0_init
set_option maxRecDepth 20000 in
theorem ggX7_init_X5_init : GoodIn wsX7_init wsX5_init := goodIn_r _ [96, 97, 2, 3, 98, 99, 100, 101, 133, 134, 135] (by decide +kernel) (by decide +kernel)
set_option maxRecDepth 20000 in
theorem gX7_init_X5_init_n59 : GoodIn wsX7_init (wsX5_init) := ggX7_init_X5_init
set_option maxRecDepth 20000 in
theorem ggX7_size_X2_becomeEmpty : GoodIn wsX7_size wsX2_becomeEmpty := goodIn_r _ [11, 12, 13, 14, 15, 16, 10, 17, 18, 19, 20, 21, 22, 23, 24, 43, 44, 45, 46, 47, 48, 49] (by decide +kernel) (by decide +kernel)
set_option maxRecDepth 20000 in
theorem gX7_size_X2_becomeEmpty : GoodIn wsX7_size (wsV RX7 67 RX2 yX2_becomeEmpty wsX2_becomeEmpty) := goodIn_app (goodIn_of _ (by decide +kernel)) ggX7_size_X2_becomeEmpty
set_option maxRecDepth 20000 in
theorem ggX7_size_X4_empty : GoodIn wsX7_size wsX4_empty := goodIn_r _ [29, 30, 50, 51, 52] (by decide +kernel) (by decide +kernel)
set_option maxRecDepth 20000 in
theorem gX7_size_X4_empty : GoodIn wsX7_size (wsV RX7 75 RX4 yX4_empty wsX4_empty) := goodIn_app (goodIn_of _ (by decide +kernel)) ggX7_size_X4_empty
set_option maxRecDepth 20000 in
theorem ggX7_worth_X2_has : GoodIn wsX7_worth wsX2_has := goodIn_r _ [7, 8, 42, 43, 44, 45, 46, 47, 48] (by decide +kernel) (by decide +kernel)
set_option maxRecDepth 20000 in
theorem gX7_worth_X2_has : GoodIn wsX7_worth (wsV RX7 87 RX2 yX2_has wsX2_has) := goodIn_app (goodIn_of _ (by decide +kernel)) ggX7_worth_X2_has
set_option maxRecDepth 20000 in
theorem ggX7_worth_X7_shownWorth : GoodIn wsX7_worth wsX7_shownWorth := goodIn_r _ [13, 1, 2, 14, 15, 16, 17, 6, 18, 19, 30, 31, 32, 33, 34, 35, 36, 37, 38, 39, 40, 41, 42, 43, 44, 45, 46, 47, 48] (by decide +kernel) (by decide +kernel)
set_option maxRecDepth 20000 in
theorem gX7_worth_X7_shownWorth : GoodIn wsX7_worth (wsV RX7 91 RX7 yX7_shownWorth wsX7_shownWorth) := goodIn_app (goodIn_of _ (by decide +kernel)) ggX7_worth_X7_shownWorth
set_option maxRecDepth 20000 in
theorem ggX7_worth_X2_becomeWorth : GoodIn wsX7_worth wsX2_becomeWorth := goodIn_r _ [23, 19, 24, 25, 26, 6, 27, 28, 29, 42, 43, 44, 45, 46, 47, 48] (by decide +kernel) (by decide +kernel)
set_option maxRecDepth 20000 in
theorem gX7_worth_X2_becomeWorth : GoodIn wsX7_worth (wsV RX7 95 RX2 yX2_becomeWorth wsX2_becomeWorth) := goodIn_app (goodIn_of _ (by decide +kernel)) ggX7_worth_X2_becomeWorth
set_option maxRecDepth 20000 in
theorem ggX7_step_X7_isStep : GoodIn wsX7_step wsX7_isStep := goodIn_r _ [7] (by decide +kernel) (by decide +kernel)
set_option maxRecDepth 20000 in
theorem gX7_step_X7_isStep : GoodIn wsX7_step (va_wsS RX7 99 yX7_isStep wsX7_isStep) := goodIn_app (goodIn_of _ (by decide +kernel)) ggX7_step_X7_isStep
set_option maxRecDepth 20000 in
theorem ggX7_feed_X6_append : GoodIn wsX7_feed wsX6_append := goodIn_r _ [6, 7, 8, 17, 18, 19, 20, 21, 22, 23, 24] (by decide +kernel) (by decide +kernel)
set_option maxRecDepth 20000 in
theorem gX7_feed_X6_append : GoodIn wsX7_feed (wsV RX7 105 RX6 yX6_append wsX6_append) := goodIn_app (goodIn_of _ (by decide +kernel)) ggX7_feed_X6_append
set_option maxRecDepth 20000 in
theorem ggX7_read_X6_findClauses : GoodIn wsX7_read wsX6_findClauses := goodIn_r _ [16, 17, 18, 19, 20, 21, 22, 23, 15, 24, 25, 26, 27, 28, 29, 30, 31, 32, 33, 34, 35, 36, 37, 38, 39, 40, 41, 42, 43, 44, 45, 46, 47, 48, 49, 50, 51, 95, 96, 97, 98, 99, 100, 101, 102] (by decide +kernel) (by decide +kernel)
set_option maxRecDepth 20000 in
theorem gX7_read_X6_findClauses : GoodIn wsX7_read (wsV RX7 109 RX6 yX6_findClauses wsX6_findClauses) := goodIn_app (goodIn_of _ (by decide +kernel)) ggX7_read_X6_findClauses
set_option maxRecDepth 20000 in
theorem ggX7_read_X0_tell : GoodIn wsX7_read wsX0_tell := goodIn_r _ [56, 57, 58, 59, 103, 104, 105] (by decide +kernel) (by decide +kernel)
set_option maxRecDepth 20000 in
theorem gX7_read_X0_tell : GoodIn wsX7_read (wsV RX7 121 RX0 yX0_tell wsX0_tell) := goodIn_app (goodIn_of _ (by decide +kernel)) ggX7_read_X0_tell
set_option maxRecDepth 20000 in
theorem ggX7_read_X2_becomeWorth : GoodIn wsX7_read wsX2_becomeWorth := goodIn_r _ [64, 65, 66, 67, 68, 63, 69, 70, 71, 88, 89, 90, 91, 92, 93, 94] (by decide +kernel) (by decide +kernel)
set_option maxRecDepth 20000 in
theorem gX7_read_X2_becomeWorth : GoodIn wsX7_read (wsV RX7 95 RX2 yX2_becomeWorth wsX2_becomeWorth) := goodIn_app (goodIn_of _ (by decide +kernel)) ggX7_read_X2_becomeWorth
set_option maxRecDepth 20000 in
theorem ggX7_read_X6_empty : GoodIn wsX7_read wsX6_empty := goodIn_r _ [75, 20, 95, 96, 97, 98, 99, 100, 101, 102] (by decide +kernel) (by decide +kernel)
set_option maxRecDepth 20000 in
theorem gX7_read_X6_empty : GoodIn wsX7_read (wsV RX7 134 RX6 yX6_empty wsX6_empty) := goodIn_app (goodIn_of _ (by decide +kernel)) ggX7_read_X6_empty
set_option maxRecDepth 20000 in
theorem ggX7_of_X2_has : GoodIn wsX7_of wsX2_has := goodIn_r _ [8, 9, 38, 39, 40, 41, 42, 43, 44] (by decide +kernel) (by decide +kernel)
set_option maxRecDepth 20000 in
theorem gX7_of_X2_has : GoodIn wsX7_of (wsV RX7 87 RX2 yX2_has wsX2_has) := goodIn_app (goodIn_of _ (by decide +kernel)) ggX7_of_X2_has
set_option maxRecDepth 20000 in
theorem ggX7_of_X7_shownWorth : GoodIn wsX7_of wsX7_shownWorth := goodIn_r _ [14, 1, 2, 15, 16, 17, 18, 7, 19, 20, 26, 27, 28, 29, 30, 31, 32, 33, 34, 35, 36, 37, 38, 39, 40, 41, 42, 43, 44] (by decide +kernel) (by decide +kernel)
set_option maxRecDepth 20000 in
theorem gX7_of_X7_shownWorth : GoodIn wsX7_of (wsV RX7 91 RX7 yX7_shownWorth wsX7_shownWorth) := goodIn_app (goodIn_of _ (by decide +kernel)) ggX7_of_X7_shownWorth
set_option maxRecDepth 20000 in
theorem ggX7_of_X2_allows : GoodIn wsX7_of wsX2_allows := goodIn_r _ [19, 20, 38, 39, 40, 41, 42, 43, 44] (by decide +kernel) (by decide +kernel)
set_option maxRecDepth 20000 in
theorem gX7_of_X2_allows : GoodIn wsX7_of (wsV RX7 138 RX2 yX2_allows wsX2_allows) := goodIn_app (goodIn_of _ (by decide +kernel)) ggX7_of_X2_allows
set_option maxRecDepth 20000 in
theorem ggX7_of_X2_gainOf : GoodIn wsX7_of wsX2_gainOf := goodIn_r _ [24, 9, 20, 25, 38, 39, 40, 41, 42, 43, 44] (by decide +kernel) (by decide +kernel)
set_option maxRecDepth 20000 in
theorem gX7_of_X2_gainOf : GoodIn wsX7_of (wsV RX7 142 RX2 yX2_gainOf wsX2_gainOf) := goodIn_app (goodIn_of _ (by decide +kernel)) ggX7_of_X2_gainOf
set_option maxRecDepth 20000 in
theorem ggX7_person_X2_has : GoodIn wsX7_person wsX2_has := goodIn_r _ [8, 9, 64, 65, 66, 67, 68, 69, 70] (by decide +kernel) (by decide +kernel)
set_option maxRecDepth 20000 in
theorem gX7_person_X2_has : GoodIn wsX7_person (wsV RX7 87 RX2 yX2_has wsX2_has) := goodIn_app (goodIn_of _ (by decide +kernel)) ggX7_person_X2_has
set_option maxRecDepth 20000 in
theorem ggX7_person_X7_shownNumber : GoodIn wsX7_person wsX7_shownNumber := goodIn_r _ [13] (by decide +kernel) (by decide +kernel)
set_option maxRecDepth 20000 in
theorem gX7_person_X7_shownNumber : GoodIn wsX7_person (va_wsS RX7 148 yX7_shownNumber wsX7_shownNumber) := goodIn_app (goodIn_of _ (by decide +kernel)) ggX7_person_X7_shownNumber
set_option maxRecDepth 20000 in
theorem ggX7_person_X2_bestOf : GoodIn wsX7_person wsX2_bestOf := goodIn_r _ [17, 18, 19, 20, 7, 21, 9, 22, 23, 24, 25, 26, 27, 28, 29, 30, 31, 64, 65, 66, 67, 68, 69, 70] (by decide +kernel) (by decide +kernel)
set_option maxRecDepth 20000 in
theorem gX7_person_X2_bestOf : GoodIn wsX7_person (wsV RX7 151 RX2 yX2_bestOf wsX2_bestOf) := goodIn_app (goodIn_of _ (by decide +kernel)) ggX7_person_X2_bestOf
set_option maxRecDepth 20000 in
theorem ggX7_person_X2_envyOf : GoodIn wsX7_person wsX2_envyOf := goodIn_r _ [35, 9, 22, 23, 24, 7, 25, 26, 27, 28, 29, 30, 31, 36, 37, 38, 39, 40, 64, 65, 66, 67, 68, 69, 70] (by decide +kernel) (by decide +kernel)
set_option maxRecDepth 20000 in
theorem gX7_person_X2_envyOf : GoodIn wsX7_person (wsV RX7 154 RX2 yX2_envyOf wsX2_envyOf) := goodIn_app (goodIn_of _ (by decide +kernel)) ggX7_person_X2_envyOf
set_option maxRecDepth 20000 in
theorem ggX7_person_X2_allowedTo : GoodIn wsX7_person wsX2_allowedTo := goodIn_r _ [44, 9, 22, 23, 24, 7, 25, 26, 64, 65, 66, 67, 68, 69, 70] (by decide +kernel) (by decide +kernel)
set_option maxRecDepth 20000 in
theorem gX7_person_X2_allowedTo : GoodIn wsX7_person (wsV RX7 157 RX2 yX2_allowedTo wsX2_allowedTo) := goodIn_app (goodIn_of _ (by decide +kernel)) ggX7_person_X2_allowedTo
set_option maxRecDepth 20000 in
theorem ggX7_person_J6_bitCount_0f7a4 : GoodIn wsX7_person wsJ6_bitCount_0f7a4 := goodIn_r _ [48, 49, 50, 51] (by decide +kernel) (by decide +kernel)
set_option maxRecDepth 20000 in
theorem gX7_person_J6_bitCount_0f7a4 : GoodIn wsX7_person (va_wsS RX7 160 yJ6_bitCount_0f7a4 wsJ6_bitCount_0f7a4) := goodIn_app (goodIn_of _ (by decide +kernel)) ggX7_person_J6_bitCount_0f7a4
set_option maxRecDepth 20000 in
theorem ggX7_thing_X2_has : GoodIn wsX7_thing wsX2_has := goodIn_r _ [9, 10, 49, 50, 51, 52, 53, 54, 55] (by decide +kernel) (by decide +kernel)
set_option maxRecDepth 20000 in
theorem gX7_thing_X2_has : GoodIn wsX7_thing (wsV RX7 87 RX2 yX2_has wsX2_has) := goodIn_app (goodIn_of _ (by decide +kernel)) ggX7_thing_X2_has
set_option maxRecDepth 20000 in
theorem ggX7_thing_X7_shownNumber : GoodIn wsX7_thing wsX7_shownNumber := goodIn_r _ [14] (by decide +kernel) (by decide +kernel)
set_option maxRecDepth 20000 in
theorem gX7_thing_X7_shownNumber : GoodIn wsX7_thing (va_wsS RX7 148 yX7_shownNumber wsX7_shownNumber) := goodIn_app (goodIn_of _ (by decide +kernel)) ggX7_thing_X7_shownNumber
set_option maxRecDepth 20000 in
theorem ggX7_thing_X2_wantersOf : GoodIn wsX7_thing wsX2_wantersOf := goodIn_r _ [18, 10, 19, 20, 21, 8, 22, 23, 24, 25, 26, 27, 28, 29, 30, 31, 32, 33, 34, 35, 36, 49, 50, 51, 52, 53, 54, 55] (by decide +kernel) (by decide +kernel)
set_option maxRecDepth 20000 in
theorem gX7_thing_X2_wantersOf : GoodIn wsX7_thing (wsV RX7 171 RX2 yX2_wantersOf wsX2_wantersOf) := goodIn_app (goodIn_of _ (by decide +kernel)) ggX7_thing_X2_wantersOf
set_option maxRecDepth 20000 in
theorem ggX7_bid_X2_letNextBid : GoodIn wsX7_bid wsX2_letNextBid := goodIn_r _ [7, 8, 9, 10, 11, 12, 13, 6, 14, 15, 16, 17, 18, 19, 20, 21, 22, 23, 24, 25, 26, 27, 28, 29, 30, 31, 32, 33, 34, 35, 36, 37, 38, 39, 40, 41, 58, 59, 60, 61, 62, 63, 64] (by decide +kernel) (by decide +kernel)
set_option maxRecDepth 20000 in
theorem gX7_bid_X2_letNextBid : GoodIn wsX7_bid (wsV RX7 174 RX2 yX2_letNextBid wsX2_letNextBid) := goodIn_app (goodIn_of _ (by decide +kernel)) ggX7_bid_X2_letNextBid
set_option maxRecDepth 20000 in
theorem ggX7_bid_X7_shownNumber : GoodIn wsX7_bid wsX7_shownNumber := goodIn_r _ [45] (by decide +kernel) (by decide +kernel)
set_option maxRecDepth 20000 in
theorem gX7_bid_X7_shownNumber : GoodIn wsX7_bid (va_wsS RX7 148 yX7_shownNumber wsX7_shownNumber) := goodIn_app (goodIn_of _ (by decide +kernel)) ggX7_bid_X7_shownNumber
set_option maxRecDepth 20000 in
theorem ggX7_auction_X2_runAuction : GoodIn wsX7_auction wsX2_runAuction := goodIn_r _ [7, 8, 9, 10, 11, 12, 13, 14, 6, 15, 16, 17, 18, 19, 20, 21, 22, 23, 24, 25, 26, 27, 28, 29, 30, 31, 32, 33, 34, 35, 36, 37, 38, 39, 40, 41, 42, 43, 44, 45, 46, 47, 84, 85, 86, 87, 88, 89, 90] (by decide +kernel) (by decide +kernel)
set_option maxRecDepth 20000 in
theorem gX7_auction_X2_runAuction : GoodIn wsX7_auction (wsV RX7 177 RX2 yX2_runAuction wsX2_runAuction) := goodIn_app (goodIn_of _ (by decide +kernel)) ggX7_auction_X2_runAuction
set_option maxRecDepth 20000 in
theorem ggX7_auction_X7_reported : GoodIn wsX7_auction wsX7_reported := goodIn_r _ [52, 1, 2, 53, 54, 55, 56, 57, 58, 59, 60, 61, 62, 63, 64, 65, 66, 6, 67, 21, 16, 68, 69, 70, 71, 72, 73, 74, 75, 76, 77, 78, 79, 80, 81, 82, 83, 84, 85, 86, 87, 88, 89, 90, 91, 92, 93] (by decide +kernel) (by decide +kernel)
set_option maxRecDepth 20000 in
theorem gX7_auction_X7_reported : GoodIn wsX7_auction (wsV RX7 180 RX7 yX7_reported wsX7_reported) := goodIn_app (goodIn_of _ (by decide +kernel)) ggX7_auction_X7_reported
set_option maxRecDepth 20000 in
theorem ggX7_scaled_X2_runScaled : GoodIn wsX7_scaled wsX2_runScaled := goodIn_r _ [7, 8, 9, 10, 11, 12, 13, 6, 14, 15, 16, 17, 18, 19, 20, 21, 22, 23, 24, 25, 26, 27, 28, 29, 30, 31, 32, 33, 34, 35, 36, 37, 38, 39, 40, 41, 42, 43, 44, 45, 46, 47, 48, 49, 50, 51, 52, 53, 54, 55, 56, 93, 94, 95, 96, 97, 98, 99] (by decide +kernel) (by decide +kernel)
set_option maxRecDepth 20000 in
theorem gX7_scaled_X2_runScaled : GoodIn wsX7_scaled (wsV RX7 183 RX2 yX2_runScaled wsX2_runScaled) := goodIn_app (goodIn_of _ (by decide +kernel)) ggX7_scaled_X2_runScaled
set_option maxRecDepth 20000 in
theorem ggX7_scaled_X7_reported : GoodIn wsX7_scaled wsX7_reported := goodIn_r _ [61, 1, 2, 62, 63, 64, 65, 66, 67, 68, 69, 70, 71, 72, 73, 74, 75, 6, 76, 31, 15, 77, 78, 79, 80, 81, 82, 83, 84, 85, 86, 87, 88, 89, 90, 91, 92, 93, 94, 95, 96, 97, 98, 99, 100, 101, 102] (by decide +kernel) (by decide +kernel)
set_option maxRecDepth 20000 in
theorem gX7_scaled_X7_reported : GoodIn wsX7_scaled (wsV RX7 180 RX7 yX7_reported wsX7_reported) := goodIn_app (goodIn_of _ (by decide +kernel)) ggX7_scaled_X7_reported
set_option maxRecDepth 20000 in
theorem ggX7_fresh_X2_ownersCounted : GoodIn wsX7_fresh wsX2_ownersCounted := goodIn_r _ [7, 8, 9, 32, 33, 34, 35, 36, 37, 38] (by decide +kernel) (by decide +kernel)
set_option maxRecDepth 20000 in
theorem gX7_fresh_X2_ownersCounted : GoodIn wsX7_fresh (wsV RX7 186 RX2 yX2_ownersCounted wsX2_ownersCounted) := goodIn_app (goodIn_of _ (by decide +kernel)) ggX7_fresh_X2_ownersCounted
set_option maxRecDepth 20000 in
theorem ggX7_fresh_X2_startAnew : GoodIn wsX7_fresh wsX2_startAnew := goodIn_r _ [13, 14, 15, 16, 17, 6, 18, 9, 19, 32, 33, 34, 35, 36, 37, 38] (by decide +kernel) (by decide +kernel)
set_option maxRecDepth 20000 in
theorem gX7_fresh_X2_startAnew : GoodIn wsX7_fresh (wsV RX7 189 RX2 yX2_startAnew wsX2_startAnew) := goodIn_app (goodIn_of _ (by decide +kernel)) ggX7_fresh_X2_startAnew
set_option maxRecDepth 20000 in
theorem ggX7_leave_X2_has : GoodIn wsX7_leave wsX2_has := goodIn_r _ [8, 9, 28, 29, 30, 31, 32, 33, 34] (by decide +kernel) (by decide +kernel)
set_option maxRecDepth 20000 in
theorem gX7_leave_X2_has : GoodIn wsX7_leave (wsV RX7 87 RX2 yX2_has wsX2_has) := goodIn_app (goodIn_of _ (by decide +kernel)) ggX7_leave_X2_has
set_option maxRecDepth 20000 in
theorem ggX7_leave_X2_giveUp : GoodIn wsX7_leave wsX2_giveUp := goodIn_r _ [13, 14, 15, 28, 29, 30, 31, 32, 33, 34] (by decide +kernel) (by decide +kernel)
set_option maxRecDepth 20000 in
theorem gX7_leave_X2_giveUp : GoodIn wsX7_leave (wsV RX7 192 RX2 yX2_giveUp wsX2_giveUp) := goodIn_app (goodIn_of _ (by decide +kernel)) ggX7_leave_X2_giveUp
set_option maxRecDepth 20000 in
theorem ggX7_told_X2_worthTogether : GoodIn wsX7_told wsX2_worthTogether := goodIn_r _ [10, 11, 12, 13, 117, 118, 119, 120, 121, 122, 123] (by decide +kernel) (by decide +kernel)
set_option maxRecDepth 20000 in
theorem gX7_told_X2_worthTogether : GoodIn wsX7_told (wsV RX7 195 RX2 yX2_worthTogether wsX2_worthTogether) := goodIn_app (goodIn_of _ (by decide +kernel)) ggX7_told_X2_worthTogether
set_option maxRecDepth 20000 in
theorem ggX7_told_X3_mostWorth : GoodIn wsX7_told wsX3_mostWorth := goodIn_r _ [18, 19, 20, 21, 22, 23, 17, 24, 25, 26, 27, 28, 29, 30, 31, 32, 33, 34, 35, 36, 37, 38, 39, 9, 40, 13, 117, 118, 119, 120, 121, 122, 123, 124] (by decide +kernel) (by decide +kernel)
set_option maxRecDepth 20000 in
theorem gX7_told_X3_mostWorth : GoodIn wsX7_told (wsV RX7 198 RX3 yX3_mostWorth wsX3_mostWorth) := goodIn_app (goodIn_of _ (by decide +kernel)) ggX7_told_X3_mostWorth
set_option maxRecDepth 20000 in
theorem ggX7_told_X2_isSure : GoodIn wsX7_told wsX2_isSure := goodIn_r _ [44, 11, 12, 45, 46, 47, 48, 9, 49, 50, 51, 52, 53, 54, 38, 39, 40, 13, 55, 56, 57, 58, 59, 60, 61, 62, 63, 117, 118, 119, 120, 121, 122, 123] (by decide +kernel) (by decide +kernel)
set_option maxRecDepth 20000 in
theorem gX7_told_X2_isSure : GoodIn wsX7_told (wsV RX7 202 RX2 yX2_isSure wsX2_isSure) := goodIn_app (goodIn_of _ (by decide +kernel)) ggX7_told_X2_isSure
set_option maxRecDepth 20000 in
theorem ggX7_told_X3_leastLacking : GoodIn wsX7_told wsX3_leastLacking := goodIn_r _ [67, 19, 30, 31, 32, 33, 34, 35, 36, 68, 69, 70, 17, 71, 72, 73, 74, 9, 75, 11, 54, 38, 39, 40, 13, 117, 118, 119, 120, 121, 122, 123] (by decide +kernel) (by decide +kernel)
set_option maxRecDepth 20000 in
theorem gX7_told_X3_leastLacking : GoodIn wsX7_told (wsV RX7 206 RX3 yX3_leastLacking wsX3_leastLacking) := goodIn_app (goodIn_of _ (by decide +kernel)) ggX7_told_X3_leastLacking
set_option maxRecDepth 20000 in
theorem ggX7_told_X2_nextBidder : GoodIn wsX7_told wsX2_nextBidder := goodIn_r _ [79, 11, 12, 80, 81, 82, 9, 83, 54, 38, 39, 40, 13, 117, 118, 119, 120, 121, 122, 123] (by decide +kernel) (by decide +kernel)
set_option maxRecDepth 20000 in
theorem gX7_told_X2_nextBidder : GoodIn wsX7_told (wsV RX7 209 RX2 yX2_nextBidder wsX2_nextBidder) := goodIn_app (goodIn_of _ (by decide +kernel)) ggX7_told_X2_nextBidder
set_option maxRecDepth 20000 in
theorem ggX7_told_X7_shownNumber : GoodIn wsX7_told wsX7_shownNumber := goodIn_r _ [87] (by decide +kernel) (by decide +kernel)
set_option maxRecDepth 20000 in
theorem gX7_told_X7_shownNumber : GoodIn wsX7_told (va_wsS RX7 148 yX7_shownNumber wsX7_shownNumber) := goodIn_app (goodIn_of _ (by decide +kernel)) ggX7_told_X7_shownNumber
set_option maxRecDepth 20000 in
theorem ggX7_told_X2_nextOffer : GoodIn wsX7_told wsX2_nextOffer := goodIn_r _ [91, 92, 77, 78, 9, 79, 11, 12, 80, 81, 82, 83, 54, 38, 39, 40, 13, 46, 47, 48, 49, 50, 51, 52, 53, 55, 56, 57, 58, 59, 93, 94, 95, 96, 45, 117, 118, 119, 120, 121, 122, 123] (by decide +kernel) (by decide +kernel)
set_option maxRecDepth 20000 in
theorem gX7_told_X2_nextOffer : GoodIn wsX7_told (wsV RX7 212 RX2 yX2_nextOffer wsX2_nextOffer) := goodIn_app (goodIn_of _ (by decide +kernel)) ggX7_told_X2_nextOffer
set_option maxRecDepth 20000 in
theorem ggX7_told_X2_ownersCounted : GoodIn wsX7_told wsX2_ownersCounted := goodIn_r _ [100, 11, 12, 117, 118, 119, 120, 121, 122, 123] (by decide +kernel) (by decide +kernel)
set_option maxRecDepth 20000 in
theorem gX7_told_X2_ownersCounted : GoodIn wsX7_told (wsV RX7 186 RX2 yX2_ownersCounted wsX2_ownersCounted) := goodIn_app (goodIn_of _ (by decide +kernel)) ggX7_told_X2_ownersCounted
set_option maxRecDepth 20000 in
theorem ggX7_told_X2_pricesTogether : GoodIn wsX7_told wsX2_pricesTogether := goodIn_r _ [104, 11, 59, 117, 118, 119, 120, 121, 122, 123] (by decide +kernel) (by decide +kernel)
set_option maxRecDepth 20000 in
theorem gX7_told_X2_pricesTogether : GoodIn wsX7_told (wsV RX7 215 RX2 yX2_pricesTogether wsX2_pricesTogether) := goodIn_app (goodIn_of _ (by decide +kernel)) ggX7_told_X2_pricesTogether
set_option maxRecDepth 20000 in
theorem ggX7_see_X4_empty : GoodIn wsX7_see wsX4_empty := goodIn_r _ [8, 9, 34, 35, 36] (by decide +kernel) (by decide +kernel)
set_option maxRecDepth 20000 in
theorem gX7_see_X4_empty : GoodIn wsX7_see (wsV RX7 75 RX4 yX4_empty wsX4_empty) := goodIn_app (goodIn_of _ (by decide +kernel)) ggX7_see_X4_empty
set_option maxRecDepth 20000 in
theorem ggX7_see_X2_has : GoodIn wsX7_see wsX2_has := goodIn_r _ [14, 15, 37, 38, 39, 40, 41, 42, 43] (by decide +kernel) (by decide +kernel)
set_option maxRecDepth 20000 in
theorem gX7_see_X2_has : GoodIn wsX7_see (wsV RX7 87 RX2 yX2_has wsX2_has) := goodIn_app (goodIn_of _ (by decide +kernel)) ggX7_see_X2_has
set_option maxRecDepth 20000 in
theorem ggX7_see_X4_append : GoodIn wsX7_see wsX4_append := goodIn_r _ [19, 9, 20, 21, 34, 35, 36] (by decide +kernel) (by decide +kernel)
set_option maxRecDepth 20000 in
theorem gX7_see_X4_append : GoodIn wsX7_see (wsV RX7 225 RX4 yX4_append wsX4_append) := goodIn_app (goodIn_of _ (by decide +kernel)) ggX7_see_X4_append
set_option maxRecDepth 20000 in
theorem ggX7_fits_X2_has : GoodIn wsX7_fits wsX2_has := goodIn_r _ [8, 9, 99, 100, 101, 102, 103, 104, 105] (by decide +kernel) (by decide +kernel)
set_option maxRecDepth 20000 in
theorem gX7_fits_X2_has : GoodIn wsX7_fits (wsV RX7 87 RX2 yX2_has wsX2_has) := goodIn_app (goodIn_of _ (by decide +kernel)) ggX7_fits_X2_has
set_option maxRecDepth 20000 in
theorem ggX7_fits_X2_become : GoodIn wsX7_fits wsX2_become := goodIn_r _ [13, 9, 14, 15, 16, 17, 18, 19, 20, 21, 22, 99, 100, 101, 102, 103, 104, 105] (by decide +kernel) (by decide +kernel)
set_option maxRecDepth 20000 in
theorem gX7_fits_X2_become : GoodIn wsX7_fits (wsV RX7 227 RX2 yX2_become wsX2_become) := goodIn_app (goodIn_of _ (by decide +kernel)) ggX7_fits_X2_become
set_option maxRecDepth 20000 in
theorem ggX7_fits_X2_becomeWorth : GoodIn wsX7_fits wsX2_becomeWorth := goodIn_r _ [26, 15, 27, 28, 29, 7, 30, 20, 21, 99, 100, 101, 102, 103, 104, 105] (by decide +kernel) (by decide +kernel)
set_option maxRecDepth 20000 in
theorem gX7_fits_X2_becomeWorth : GoodIn wsX7_fits (wsV RX7 95 RX2 yX2_becomeWorth wsX2_becomeWorth) := goodIn_app (goodIn_of _ (by decide +kernel)) ggX7_fits_X2_becomeWorth
set_option maxRecDepth 20000 in
theorem ggX7_fits_X2_startAnew : GoodIn wsX7_fits wsX2_startAnew := goodIn_r _ [34, 22, 35, 36, 37, 7, 38, 20, 21, 99, 100, 101, 102, 103, 104, 105] (by decide +kernel) (by decide +kernel)
set_option maxRecDepth 20000 in
theorem gX7_fits_X2_startAnew : GoodIn wsX7_fits (wsV RX7 189 RX2 yX2_startAnew wsX2_startAnew) := goodIn_app (goodIn_of _ (by decide +kernel)) ggX7_fits_X2_startAnew
set_option maxRecDepth 20000 in
theorem ggX7_fits_X2_runAuction : GoodIn wsX7_fits wsX2_runAuction := goodIn_r _ [42, 43, 44, 22, 21, 45, 46, 47, 7, 48, 20, 49, 50, 51, 52, 9, 53, 54, 55, 56, 57, 58, 59, 60, 15, 61, 62, 63, 64, 65, 66, 67, 68, 69, 70, 71, 72, 73, 74, 75, 76, 14, 99, 100, 101, 102, 103, 104, 105] (by decide +kernel) (by decide +kernel)
set_option maxRecDepth 20000 in
theorem gX7_fits_X2_runAuction : GoodIn wsX7_fits (wsV RX7 177 RX2 yX2_runAuction wsX2_runAuction) := goodIn_app (goodIn_of _ (by decide +kernel)) ggX7_fits_X2_runAuction
set_option maxRecDepth 20000 in
theorem ggX7_fits_X7_goesAsSeen : GoodIn wsX7_fits wsX7_goesAsSeen := goodIn_r _ [81, 1, 82, 83, 84, 85, 86, 4, 5, 6, 7, 8, 9, 87, 88, 89, 90, 91, 92, 93, 94, 95, 96, 97, 98, 106, 107, 108, 99, 100, 101, 102, 103, 104, 105] (by decide +kernel) (by decide +kernel)
set_option maxRecDepth 20000 in
theorem gX7_fits_X7_goesAsSeen : GoodIn wsX7_fits (wsV RX7 231 RX7 yX7_goesAsSeen wsX7_goesAsSeen) := goodIn_app (goodIn_of _ (by decide +kernel)) ggX7_fits_X7_goesAsSeen
set_option maxRecDepth 20000 in
theorem ggX7_odds_X2_has : GoodIn wsX7_odds wsX2_has := goodIn_r _ [11, 12, 88, 89, 90, 91, 92, 93, 94] (by decide +kernel) (by decide +kernel)
set_option maxRecDepth 20000 in
theorem gX7_odds_X2_has : GoodIn wsX7_odds (wsV RX7 87 RX2 yX2_has wsX2_has) := goodIn_app (goodIn_of _ (by decide +kernel)) ggX7_odds_X2_has
set_option maxRecDepth 20000 in
theorem ggX7_odds_X2_become : GoodIn wsX7_odds wsX2_become := goodIn_r _ [16, 12, 17, 18, 19, 20, 21, 22, 23, 24, 25, 88, 89, 90, 91, 92, 93, 94] (by decide +kernel) (by decide +kernel)
set_option maxRecDepth 20000 in
theorem gX7_odds_X2_become : GoodIn wsX7_odds (wsV RX7 227 RX2 yX2_become wsX2_become) := goodIn_app (goodIn_of _ (by decide +kernel)) ggX7_odds_X2_become
set_option maxRecDepth 20000 in
theorem ggX7_odds_X2_startAnew : GoodIn wsX7_odds wsX2_startAnew := goodIn_r _ [29, 25, 30, 31, 32, 10, 33, 23, 24, 88, 89, 90, 91, 92, 93, 94] (by decide +kernel) (by decide +kernel)
set_option maxRecDepth 20000 in
theorem gX7_odds_X2_startAnew : GoodIn wsX7_odds (wsV RX7 189 RX2 yX2_startAnew wsX2_startAnew) := goodIn_app (goodIn_of _ (by decide +kernel)) ggX7_odds_X2_startAnew
set_option maxRecDepth 20000 in
theorem ggX7_odds_X2_runAuction : GoodIn wsX7_odds wsX2_runAuction := goodIn_r _ [37, 38, 39, 25, 24, 40, 41, 42, 10, 43, 23, 44, 45, 46, 47, 12, 48, 49, 50, 51, 52, 53, 54, 55, 18, 56, 57, 58, 59, 60, 61, 62, 63, 64, 65, 66, 67, 68, 69, 70, 71, 17, 88, 89, 90, 91, 92, 93, 94] (by decide +kernel) (by decide +kernel)
set_option maxRecDepth 20000 in
theorem gX7_odds_X2_runAuction : GoodIn wsX7_odds (wsV RX7 177 RX2 yX2_runAuction wsX2_runAuction) := goodIn_app (goodIn_of _ (by decide +kernel)) ggX7_odds_X2_runAuction
set_option maxRecDepth 20000 in
theorem ggX7_odds_X7_lowestTerms : GoodIn wsX7_odds wsX7_lowestTerms := goodIn_r _ [75, 3] (by decide +kernel) (by decide +kernel)
set_option maxRecDepth 20000 in
theorem gX7_odds_X7_lowestTerms : GoodIn wsX7_odds (va_wsS RX7 235 yX7_lowestTerms wsX7_lowestTerms) := goodIn_app (goodIn_of _ (by decide +kernel)) ggX7_odds_X7_lowestTerms
set_option maxRecDepth 20000 in
theorem ggX7_mean_X2_pricesTogether : GoodIn wsX7_mean wsX2_pricesTogether := goodIn_r _ [8, 9, 10, 28, 29, 30, 31, 32, 33, 34] (by decide +kernel) (by decide +kernel)
set_option maxRecDepth 20000 in
theorem gX7_mean_X2_pricesTogether : GoodIn wsX7_mean (wsV RX7 215 RX2 yX2_pricesTogether wsX2_pricesTogether) := goodIn_app (goodIn_of _ (by decide +kernel)) ggX7_mean_X2_pricesTogether
set_option maxRecDepth 20000 in
theorem ggX7_mean_X7_lowestTerms : GoodIn wsX7_mean wsX7_lowestTerms := goodIn_r _ [14, 15] (by decide +kernel) (by decide +kernel)
set_option maxRecDepth 20000 in
theorem gX7_mean_X7_lowestTerms : GoodIn wsX7_mean (va_wsS RX7 235 yX7_lowestTerms wsX7_lowestTerms) := goodIn_app (goodIn_of _ (by decide +kernel)) ggX7_mean_X7_lowestTerms
set_option maxRecDepth 20000 in
theorem ggX7_plan_X4_empty : GoodIn wsX7_plan wsX4_empty := goodIn_r _ [8, 9, 38, 39, 40] (by decide +kernel) (by decide +kernel)
set_option maxRecDepth 20000 in
theorem gX7_plan_X4_empty : GoodIn wsX7_plan (wsV RX7 75 RX4 yX4_empty wsX4_empty) := goodIn_app (goodIn_of _ (by decide +kernel)) ggX7_plan_X4_empty
set_option maxRecDepth 20000 in
theorem ggX7_plan_X2_has : GoodIn wsX7_plan wsX2_has := goodIn_r _ [14, 15, 41, 42, 43, 44, 45, 46, 47] (by decide +kernel) (by decide +kernel)
set_option maxRecDepth 20000 in
theorem gX7_plan_X2_has : GoodIn wsX7_plan (wsV RX7 87 RX2 yX2_has wsX2_has) := goodIn_app (goodIn_of _ (by decide +kernel)) ggX7_plan_X2_has
set_option maxRecDepth 20000 in
theorem ggX7_plan_X7_isStep : GoodIn wsX7_plan wsX7_isStep := goodIn_r _ [19] (by decide +kernel) (by decide +kernel)
set_option maxRecDepth 20000 in
theorem gX7_plan_X7_isStep : GoodIn wsX7_plan (va_wsS RX7 99 yX7_isStep wsX7_isStep) := goodIn_app (goodIn_of _ (by decide +kernel)) ggX7_plan_X7_isStep
set_option maxRecDepth 20000 in
theorem ggX7_plan_X4_append : GoodIn wsX7_plan wsX4_append := goodIn_r _ [23, 9, 24, 25, 38, 39, 40] (by decide +kernel) (by decide +kernel)
set_option maxRecDepth 20000 in
theorem gX7_plan_X4_append : GoodIn wsX7_plan (wsV RX7 225 RX4 yX4_append wsX4_append) := goodIn_app (goodIn_of _ (by decide +kernel)) ggX7_plan_X4_append
set_option maxRecDepth 20000 in
theorem ggX7_ends_X2_become : GoodIn wsX7_ends wsX2_become := goodIn_r _ [12, 13, 14, 15, 16, 17, 18, 19, 20, 21, 22, 91, 92, 93, 94, 95, 96, 97] (by decide +kernel) (by decide +kernel)
set_option maxRecDepth 20000 in
theorem gX7_ends_X2_become : GoodIn wsX7_ends (wsV RX7 227 RX2 yX2_become wsX2_become) := goodIn_app (goodIn_of _ (by decide +kernel)) ggX7_ends_X2_become
set_option maxRecDepth 20000 in
theorem ggX7_ends_X7_goOn : GoodIn wsX7_ends wsX7_goOn := goodIn_r _ [26, 27, 28, 29, 30, 11, 31, 22, 21, 20, 32, 33, 34, 35, 13, 36, 37, 38, 39, 40, 41, 42, 43, 15, 44, 45, 46, 47, 48, 49, 50, 51, 52, 53, 54, 55, 56, 57, 58, 59, 14, 60, 61, 62, 63, 64, 65, 66, 67, 91, 92, 93, 94, 95, 96, 97] (by decide +kernel) (by decide +kernel)
set_option maxRecDepth 20000 in
theorem gX7_ends_X7_goOn : GoodIn wsX7_ends (va_wsS RX7 248 yX7_goOn wsX7_goOn) := goodIn_app (goodIn_of _ (by decide +kernel)) ggX7_ends_X7_goOn
set_option maxRecDepth 20000 in
theorem ggX7_ends_X2_worthTogether : GoodIn wsX7_ends wsX2_worthTogether := goodIn_r _ [71, 13, 20, 15, 91, 92, 93, 94, 95, 96, 97] (by decide +kernel) (by decide +kernel)
set_option maxRecDepth 20000 in
theorem gX7_ends_X2_worthTogether : GoodIn wsX7_ends (wsV RX7 195 RX2 yX2_worthTogether wsX2_worthTogether) := goodIn_app (goodIn_of _ (by decide +kernel)) ggX7_ends_X2_worthTogether
set_option maxRecDepth 20000 in
theorem ggX7_ends_X2_pricesTogether : GoodIn wsX7_ends wsX2_pricesTogether := goodIn_r _ [75, 13, 22, 91, 92, 93, 94, 95, 96, 97] (by decide +kernel) (by decide +kernel)
set_option maxRecDepth 20000 in
theorem gX7_ends_X2_pricesTogether : GoodIn wsX7_ends (wsV RX7 215 RX2 yX2_pricesTogether wsX2_pricesTogether) := goodIn_app (goodIn_of _ (by decide +kernel)) ggX7_ends_X2_pricesTogether
set_option maxRecDepth 20000 in
theorem ggX7_book_X4_empty : GoodIn wsX7_book wsX4_empty := goodIn_r _ [8, 9, 34, 35, 36] (by decide +kernel) (by decide +kernel)
set_option maxRecDepth 20000 in
theorem gX7_book_X4_empty : GoodIn wsX7_book (wsV RX7 75 RX4 yX4_empty wsX4_empty) := goodIn_app (goodIn_of _ (by decide +kernel)) ggX7_book_X4_empty
set_option maxRecDepth 20000 in
theorem ggX7_book_X2_has : GoodIn wsX7_book wsX2_has := goodIn_r _ [14, 15, 37, 38, 39, 40, 41, 42, 43] (by decide +kernel) (by decide +kernel)
set_option maxRecDepth 20000 in
theorem gX7_book_X2_has : GoodIn wsX7_book (wsV RX7 87 RX2 yX2_has wsX2_has) := goodIn_app (goodIn_of _ (by decide +kernel)) ggX7_book_X2_has
set_option maxRecDepth 20000 in
theorem ggX7_book_X4_append : GoodIn wsX7_book wsX4_append := goodIn_r _ [19, 9, 20, 21, 34, 35, 36] (by decide +kernel) (by decide +kernel)
set_option maxRecDepth 20000 in
theorem gX7_book_X4_append : GoodIn wsX7_book (wsV RX7 225 RX4 yX4_append wsX4_append) := goodIn_app (goodIn_of _ (by decide +kernel)) ggX7_book_X4_append
set_option maxRecDepth 20000 in
theorem ggX7_looked_X2_has : GoodIn wsX7_looked wsX2_has := goodIn_r _ [12, 13, 29, 30, 31, 32, 33, 34, 35] (by decide +kernel) (by decide +kernel)
set_option maxRecDepth 20000 in
theorem gX7_looked_X2_has : GoodIn wsX7_looked (wsV RX7 87 RX2 yX2_has wsX2_has) := goodIn_app (goodIn_of _ (by decide +kernel)) ggX7_looked_X2_has
set_option maxRecDepth 20000 in
theorem ggX7_judge_X7_isTape : GoodIn wsX7_judge wsX7_isTape := goodIn_r _ [12] (by decide +kernel) (by decide +kernel)
set_option maxRecDepth 20000 in
theorem gX7_judge_X7_isTape : GoodIn wsX7_judge (va_wsS RX7 252 yX7_isTape wsX7_isTape) := goodIn_app (goodIn_of _ (by decide +kernel)) ggX7_judge_X7_isTape
set_option maxRecDepth 20000 in
theorem ggX7_image_X1_become : GoodIn wsX7_image wsX1_become := goodIn_r _ [10, 11, 12, 13, 14, 15, 16, 17, 18, 19, 20, 21, 22, 23, 24, 25, 26, 27, 28, 29, 30, 31, 32, 33, 34, 35, 36, 37, 38, 39, 40, 41, 42, 51, 52, 53, 54, 55, 56, 57, 58, 59, 60, 61, 62, 63, 64] (by decide +kernel) (by decide +kernel)
set_option maxRecDepth 20000 in
theorem gX7_image_X1_become : GoodIn wsX7_image (wsV RX7 265 RX1 yX1_become wsX1_become) := goodIn_app (goodIn_of _ (by decide +kernel)) ggX7_image_X1_become
set_option maxRecDepth 20000 in
theorem ggX7_undo_X1_become : GoodIn wsX7_undo wsX1_become := goodIn_r _ [10, 11, 12, 13, 14, 15, 16, 17, 18, 19, 20, 21, 22, 23, 24, 25, 26, 27, 28, 29, 30, 31, 32, 33, 34, 35, 36, 37, 38, 39, 40, 41, 42, 51, 52, 53, 54, 55, 56, 57, 58, 59, 60, 61, 62, 63, 64] (by decide +kernel) (by decide +kernel)
set_option maxRecDepth 20000 in
theorem gX7_undo_X1_become : GoodIn wsX7_undo (wsV RX7 265 RX1 yX1_become wsX1_become) := goodIn_app (goodIn_of _ (by decide +kernel)) ggX7_undo_X1_become
set_option maxRecDepth 20000 in
theorem ggX7_count_X2_forbiddenCounted : GoodIn wsX7_count wsX2_forbiddenCounted := goodIn_r _ [14, 15, 16, 17, 18, 13, 19, 20, 21, 22, 23, 24, 25, 26, 27, 28, 29, 30, 31, 44, 45, 46, 47, 48, 49, 50] (by decide +kernel) (by decide +kernel)
set_option maxRecDepth 20000 in
theorem gX7_count_X2_forbiddenCounted : GoodIn wsX7_count (wsV RX7 269 RX2 yX2_forbiddenCounted wsX2_forbiddenCounted) := goodIn_app (goodIn_of _ (by decide +kernel)) ggX7_count_X2_forbiddenCounted
set_option maxRecDepth 20000 in
theorem ggX7_tape_X7_isTape : GoodIn wsX7_tape wsX7_isTape := goodIn_r _ [5] (by decide +kernel) (by decide +kernel)
set_option maxRecDepth 20000 in
theorem gX7_tape_X7_isTape : GoodIn wsX7_tape (va_wsS RX7 252 yX7_isTape wsX7_isTape) := goodIn_app (goodIn_of _ (by decide +kernel)) ggX7_tape_X7_isTape
set_option maxRecDepth 20000 in
theorem ggX7_tape_X5_becomeRow : GoodIn wsX7_tape wsX5_becomeRow := goodIn_r _ [10, 11, 12, 13, 22, 23, 24] (by decide +kernel) (by decide +kernel)
set_option maxRecDepth 20000 in
theorem gX7_tape_X5_becomeRow : GoodIn wsX7_tape (wsV RX7 272 RX5 yX5_becomeRow wsX5_becomeRow) := goodIn_app (goodIn_of _ (by decide +kernel)) ggX7_tape_X5_becomeRow
set_option maxRecDepth 20000 in
theorem ggX7_item_X7_isTape : GoodIn wsX7_item wsX7_isTape := goodIn_r _ [7] (by decide +kernel) (by decide +kernel)
set_option maxRecDepth 20000 in
theorem gX7_item_X7_isTape : GoodIn wsX7_item (va_wsS RX7 252 yX7_isTape wsX7_isTape) := goodIn_app (goodIn_of _ (by decide +kernel)) ggX7_item_X7_isTape
set_option maxRecDepth 20000 in
theorem ggX7_item_X5_hasPlace : GoodIn wsX7_item wsX5_hasPlace := goodIn_r _ [12, 13, 27, 28, 29] (by decide +kernel) (by decide +kernel)
set_option maxRecDepth 20000 in
theorem gX7_item_X5_hasPlace : GoodIn wsX7_item (wsV RX7 276 RX5 yX5_hasPlace wsX5_hasPlace) := goodIn_app (goodIn_of _ (by decide +kernel)) ggX7_item_X5_hasPlace
set_option maxRecDepth 20000 in
theorem ggX7_item_X5_asItem : GoodIn wsX7_item wsX5_asItem := goodIn_r _ [17, 18, 27, 28, 29] (by decide +kernel) (by decide +kernel)
set_option maxRecDepth 20000 in
theorem gX7_item_X5_asItem : GoodIn wsX7_item (wsV RX7 279 RX5 yX5_asItem wsX5_asItem) := goodIn_app (goodIn_of _ (by decide +kernel)) ggX7_item_X5_asItem
set_option maxRecDepth 20000 in
theorem ggX7_peek_X7_isTape : GoodIn wsX7_peek wsX7_isTape := goodIn_r _ [7] (by decide +kernel) (by decide +kernel)
set_option maxRecDepth 20000 in
theorem gX7_peek_X7_isTape : GoodIn wsX7_peek (va_wsS RX7 252 yX7_isTape wsX7_isTape) := goodIn_app (goodIn_of _ (by decide +kernel)) ggX7_peek_X7_isTape
set_option maxRecDepth 20000 in
theorem ggX7_peek_X5_hasPlace : GoodIn wsX7_peek wsX5_hasPlace := goodIn_r _ [12, 13, 22, 23, 24] (by decide +kernel) (by decide +kernel)
set_option maxRecDepth 20000 in
theorem gX7_peek_X5_hasPlace : GoodIn wsX7_peek (wsV RX7 276 RX5 yX5_hasPlace wsX5_hasPlace) := goodIn_app (goodIn_of _ (by decide +kernel)) ggX7_peek_X5_hasPlace
set_option maxRecDepth 20000 in
theorem ggX7_shift_X7_isTape : GoodIn wsX7_shift wsX7_isTape := goodIn_r _ [11] (by decide +kernel) (by decide +kernel)
set_option maxRecDepth 20000 in
theorem gX7_shift_X7_isTape : GoodIn wsX7_shift (va_wsS RX7 252 yX7_isTape wsX7_isTape) := goodIn_app (goodIn_of _ (by decide +kernel)) ggX7_shift_X7_isTape
set_option maxRecDepth 20000 in
theorem ggX7_shift_X5_hasRun : GoodIn wsX7_shift wsX5_hasRun := goodIn_r _ [16, 17, 26, 27, 28] (by decide +kernel) (by decide +kernel)
set_option maxRecDepth 20000 in
theorem gX7_shift_X5_hasRun : GoodIn wsX7_shift (wsV RX7 283 RX5 yX5_hasRun wsX5_hasRun) := goodIn_app (goodIn_of _ (by decide +kernel)) ggX7_shift_X5_hasRun
set_option maxRecDepth 20000 in
theorem ggX7_shownWorth_X2_allows : GoodIn wsX7_shownWorth wsX2_allows := goodIn_r _ [8, 9, 22, 23, 24, 25, 26, 27, 28] (by decide +kernel) (by decide +kernel)
set_option maxRecDepth 20000 in
theorem gX7_shownWorth_X2_allows : GoodIn wsX7_shownWorth (wsV RX7 138 RX2 yX2_allows wsX2_allows) := goodIn_app (goodIn_of _ (by decide +kernel)) ggX7_shownWorth_X2_allows
set_option maxRecDepth 20000 in
theorem ggX7_reported_X0_tell : GoodIn wsX7_reported wsX0_tell := goodIn_r _ [10, 11, 12, 13, 44, 45, 46] (by decide +kernel) (by decide +kernel)
set_option maxRecDepth 20000 in
theorem gX7_reported_X0_tell : GoodIn wsX7_reported (wsV RX7 121 RX0 yX0_tell wsX0_tell) := goodIn_app (goodIn_of _ (by decide +kernel)) ggX7_reported_X0_tell
set_option maxRecDepth 20000 in
theorem ggX7_reported_X2_leastWithout : GoodIn wsX7_reported wsX2_leastWithout := goodIn_r _ [18, 19, 20, 37, 38, 39, 40, 41, 42, 43] (by decide +kernel) (by decide +kernel)
set_option maxRecDepth 20000 in
theorem gX7_reported_X2_leastWithout : GoodIn wsX7_reported (wsV RX7 298 RX2 yX2_leastWithout wsX2_leastWithout) := goodIn_app (goodIn_of _ (by decide +kernel)) ggX7_reported_X2_leastWithout
set_option maxRecDepth 20000 in
theorem ggX7_reported_X2_ownersCounted : GoodIn wsX7_reported wsX2_ownersCounted := goodIn_r _ [24, 19, 20, 37, 38, 39, 40, 41, 42, 43] (by decide +kernel) (by decide +kernel)
set_option maxRecDepth 20000 in
theorem gX7_reported_X2_ownersCounted : GoodIn wsX7_reported (wsV RX7 186 RX2 yX2_ownersCounted wsX2_ownersCounted) := goodIn_app (goodIn_of _ (by decide +kernel)) ggX7_reported_X2_ownersCounted
set_option maxRecDepth 20000 in
theorem ggX7_goesAsSeen_X2_has : GoodIn wsX7_goesAsSeen wsX2_has := goodIn_r _ [11, 12, 28, 29, 30, 31, 32, 33, 34] (by decide +kernel) (by decide +kernel)
set_option maxRecDepth 20000 in
theorem gX7_goesAsSeen_X2_has : GoodIn wsX7_goesAsSeen (wsV RX7 87 RX2 yX2_has wsX2_has) := goodIn_app (goodIn_of _ (by decide +kernel)) ggX7_goesAsSeen_X2_has
set_option maxRecDepth 20000 in
theorem ggX7_goOn_X2_letNextBid : GoodIn wsX7_goOn wsX2_letNextBid := goodIn_r _ [6, 7, 8, 9, 10, 11, 12, 5, 13, 14, 15, 16, 17, 18, 19, 20, 21, 22, 23, 24, 25, 26, 27, 28, 29, 30, 31, 32, 33, 34, 35, 36, 37, 38, 39, 40, 49, 50, 51, 52, 53, 54, 55] (by decide +kernel) (by decide +kernel)
set_option maxRecDepth 20000 in
theorem gX7_goOn_X2_letNextBid : GoodIn wsX7_goOn (wsV RX7 174 RX2 yX2_letNextBid wsX2_letNextBid) := goodIn_app (goodIn_of _ (by decide +kernel)) ggX7_goOn_X2_letNextBid
set_option maxRecDepth 20000 in
theorem ggX7_goOn_X2_has : GoodIn wsX7_goOn wsX2_has := goodIn_r _ [44, 14, 49, 50, 51, 52, 53, 54, 55] (by decide +kernel) (by decide +kernel)
set_option maxRecDepth 20000 in
theorem gX7_goOn_X2_has : GoodIn wsX7_goOn (wsV RX7 87 RX2 yX2_has wsX2_has) := goodIn_app (goodIn_of _ (by decide +kernel)) ggX7_goOn_X2_has
set_option maxRecDepth 20000 in
theorem ggX7_goOn_X2_giveUp : GoodIn wsX7_goOn wsX2_giveUp := goodIn_r _ [48, 9, 8, 49, 50, 51, 52, 53, 54, 55] (by decide +kernel) (by decide +kernel)
set_option maxRecDepth 20000 in
theorem gX7_goOn_X2_giveUp : GoodIn wsX7_goOn (wsV RX7 192 RX2 yX2_giveUp wsX2_giveUp) := goodIn_app (goodIn_of _ (by decide +kernel)) ggX7_goOn_X2_giveUp
set_option maxRecDepth 20000 in
theorem ggX8_init_X8_empties : GoodIn wsX8_init wsX8_empties := goodIn_r _ [35, 8, 4, 9, 36, 37, 38, 39, 40, 41, 42, 43, 44, 45, 46, 47, 48, 49, 50, 51, 52, 53, 54, 55, 56, 57, 58, 59, 60, 61, 62, 63, 64, 65, 66, 67, 68, 69, 70, 71] (by decide +kernel) (by decide +kernel)
set_option maxRecDepth 20000 in
theorem gX8_init_X8_empties : GoodIn wsX8_init (wsV RX8 88 RX8 yX8_empties wsX8_empties) := goodIn_app (goodIn_of _ (by decide +kernel)) ggX8_init_X8_empties
set_option maxRecDepth 20000 in
theorem ggX8_isOne_X8_in : GoodIn wsX8_isOne wsX8_in := goodIn_r _ [5] (by decide +kernel) (by decide +kernel)
set_option maxRecDepth 20000 in
theorem gX8_isOne_X8_in : GoodIn wsX8_isOne (va_wsS RX8 92 yX8_in wsX8_in) := goodIn_app (goodIn_of _ (by decide +kernel)) ggX8_isOne_X8_in
set_option maxRecDepth 20000 in
theorem ggX8_isPair_X8_isOne : GoodIn wsX8_isPair wsX8_isOne := goodIn_r _ [5, 6, 7, 8, 4, 9, 10, 11, 12, 13, 14, 15, 16, 17, 18, 19, 20, 21, 22, 23, 24, 25, 26, 27, 28, 29, 30, 31, 32, 33, 34, 35, 36, 37, 38, 39, 40, 41, 42, 43, 44, 45] (by decide +kernel) (by decide +kernel)
set_option maxRecDepth 20000 in
theorem gX8_isPair_X8_isOne : GoodIn wsX8_isPair (wsV RX8 96 RX8 yX8_isOne wsX8_isOne) := goodIn_app (goodIn_of _ (by decide +kernel)) ggX8_isPair_X8_isOne
set_option maxRecDepth 20000 in
theorem ggX8_passesRow_X8_passes : GoodIn wsX8_passesRow wsX8_passes := goodIn_r _ [5, 6, 7, 8, 9, 10, 11, 12, 13, 14, 15, 16, 17, 18, 19, 20, 21, 22, 23, 24, 25, 26, 27, 28, 29, 30, 31, 32, 33, 34, 35, 36, 37, 38, 39, 40, 41, 42, 43, 44] (by decide +kernel) (by decide +kernel)
set_option maxRecDepth 20000 in
theorem gX8_passesRow_X8_passes : GoodIn wsX8_passesRow (wsV RX8 107 RX8 yX8_passes wsX8_passes) := goodIn_app (goodIn_of _ (by decide +kernel)) ggX8_passesRow_X8_passes
set_option maxRecDepth 20000 in
theorem ggX8_passesAll_X8_passes : GoodIn wsX8_passesAll wsX8_passes := goodIn_r _ [22, 1, 23, 2, 28, 29, 30, 31, 32, 33, 34, 35, 36, 37, 38, 39, 40, 41, 42, 43, 44, 45, 46, 47, 48, 49, 50, 51, 52, 53, 54, 55, 56, 57, 58, 59, 60, 61, 62, 63] (by decide +kernel) (by decide +kernel)
set_option maxRecDepth 20000 in
theorem gX8_passesAll_X8_passes : GoodIn wsX8_passesAll (wsV RX8 107 RX8 yX8_passes wsX8_passes) := goodIn_app (goodIn_of _ (by decide +kernel)) ggX8_passesAll_X8_passes
set_option maxRecDepth 20000 in
theorem ggX8_passesAll_X8_passesRow : GoodIn wsX8_passesAll wsX8_passesRow := goodIn_r _ [27, 18, 19, 20, 21, 22, 1, 23, 2, 28, 29, 30, 31, 32, 33, 34, 35, 36, 37, 38, 39, 40, 41, 42, 43, 44, 45, 46, 47, 48, 49, 50, 51, 52, 53, 54, 55, 56, 57, 58, 59, 60, 61, 62, 63] (by decide +kernel) (by decide +kernel)
set_option maxRecDepth 20000 in
theorem gX8_passesAll_X8_passesRow : GoodIn wsX8_passesAll (wsV RX8 120 RX8 yX8_passesRow wsX8_passesRow) := goodIn_app (goodIn_of _ (by decide +kernel)) ggX8_passesAll_X8_passesRow
set_option maxRecDepth 20000 in
theorem ggX8_image_X8_passesAll : GoodIn wsX8_image wsX8_passesAll := goodIn_r _ [6, 7, 8, 9, 10, 11, 12, 13, 14, 15, 16, 17, 18, 19, 20, 21, 22, 23, 24, 25, 26, 5, 27, 28, 29, 30, 31, 32, 33, 34, 35, 36, 37, 38, 39, 40, 41, 42, 43, 44, 45, 46, 47, 48, 49, 50, 51, 52, 53, 54, 55, 56, 57, 58, 59, 60, 61, 62, 63, 64, 65, 66, 67, 68] (by decide +kernel) (by decide +kernel)
set_option maxRecDepth 20000 in
theorem gX8_image_X8_passesAll : GoodIn wsX8_image (wsV RX8 127 RX8 yX8_passesAll wsX8_passesAll) := goodIn_app (goodIn_of _ (by decide +kernel)) ggX8_image_X8_passesAll
set_option maxRecDepth 20000 in
theorem ggX8_undo_X8_passesAll : GoodIn wsX8_undo wsX8_passesAll := goodIn_r _ [6, 7, 8, 9, 10, 11, 12, 13, 14, 15, 16, 17, 18, 19, 20, 21, 22, 23, 24, 25, 26, 5, 27, 28, 29, 30, 31, 32, 33, 34, 35, 36, 37, 38, 39, 40, 41, 42, 43, 44, 45, 46, 47, 48, 49, 50, 51, 52, 53, 54, 55, 56, 57, 58, 59, 60, 61, 62, 63, 64, 65, 66, 67, 68] (by decide +kernel) (by decide +kernel)
set_option maxRecDepth 20000 in
theorem gX8_undo_X8_passesAll : GoodIn wsX8_undo (wsV RX8 127 RX8 yX8_passesAll wsX8_passesAll) := goodIn_app (goodIn_of _ (by decide +kernel)) ggX8_undo_X8_passesAll
set_option maxRecDepth 20000 in
theorem ggX8_minds_X8_lays : GoodIn wsX8_minds wsX8_lays := goodIn_r _ [14] (by decide +kernel) (by decide +kernel)
set_option maxRecDepth 20000 in
theorem gX8_minds_X8_lays : GoodIn wsX8_minds (va_wsS RX8 131 yX8_lays wsX8_lays) := goodIn_app (goodIn_of _ (by decide +kernel)) ggX8_minds_X8_lays
set_option maxRecDepth 20000 in
theorem ggX8_forgets_X8_lays : GoodIn wsX8_forgets wsX8_lays := goodIn_r _ [14] (by decide +kernel) (by decide +kernel)
set_option maxRecDepth 20000 in
theorem gX8_forgets_X8_lays : GoodIn wsX8_forgets (va_wsS RX8 131 yX8_lays wsX8_lays) := goodIn_app (goodIn_of _ (by decide +kernel)) ggX8_forgets_X8_lays
set_option maxRecDepth 20000 in
theorem ggX8_best_X8_may : GoodIn wsX8_best wsX8_may := goodIn_r _ [6, 7, 13, 14, 15, 16, 17, 18, 19, 20, 21, 22, 23, 24, 25, 26, 27, 28, 29, 30, 31, 32, 33, 34, 35, 36, 37, 38, 39, 40, 41, 42, 43, 44, 45, 46, 47, 48] (by decide +kernel) (by decide +kernel)
set_option maxRecDepth 20000 in
theorem gX8_best_X8_may : GoodIn wsX8_best (wsV RX8 138 RX8 yX8_may wsX8_may) := goodIn_app (goodIn_of _ (by decide +kernel)) ggX8_best_X8_may
set_option maxRecDepth 20000 in
theorem ggX8_best_X8_gain : GoodIn wsX8_best wsX8_gain := goodIn_r _ [11, 1, 7, 12, 13, 14, 15, 16, 17, 18, 19, 20, 21, 22, 23, 24, 25, 26, 27, 28, 29, 30, 31, 32, 33, 34, 35, 36, 37, 38, 39, 40, 41, 42, 43, 44, 45, 46, 47, 48] (by decide +kernel) (by decide +kernel)
set_option maxRecDepth 20000 in
theorem gX8_best_X8_gain : GoodIn wsX8_best (wsV RX8 142 RX8 yX8_gain wsX8_gain) := goodIn_app (goodIn_of _ (by decide +kernel)) ggX8_best_X8_gain
set_option maxRecDepth 20000 in
theorem ggX8_second_X8_may : GoodIn wsX8_second wsX8_may := goodIn_r _ [6, 7, 13, 14, 15, 16, 17, 18, 19, 20, 21, 22, 23, 24, 25, 26, 27, 28, 29, 30, 31, 32, 33, 34, 35, 36, 37, 38, 39, 40, 41, 42, 43, 44, 45, 46, 47, 48] (by decide +kernel) (by decide +kernel)
set_option maxRecDepth 20000 in
theorem gX8_second_X8_may : GoodIn wsX8_second (wsV RX8 138 RX8 yX8_may wsX8_may) := goodIn_app (goodIn_of _ (by decide +kernel)) ggX8_second_X8_may
set_option maxRecDepth 20000 in
theorem ggX8_second_X8_gain : GoodIn wsX8_second wsX8_gain := goodIn_r _ [11, 1, 7, 12, 13, 14, 15, 16, 17, 18, 19, 20, 21, 22, 23, 24, 25, 26, 27, 28, 29, 30, 31, 32, 33, 34, 35, 36, 37, 38, 39, 40, 41, 42, 43, 44, 45, 46, 47, 48] (by decide +kernel) (by decide +kernel)
set_option maxRecDepth 20000 in
theorem gX8_second_X8_gain : GoodIn wsX8_second (wsV RX8 142 RX8 yX8_gain wsX8_gain) := goodIn_app (goodIn_of _ (by decide +kernel)) ggX8_second_X8_gain
set_option maxRecDepth 20000 in
theorem ggX8_offer_X8_best : GoodIn wsX8_offer wsX8_best := goodIn_r _ [7, 8, 9, 10, 11, 6, 12, 13, 14, 15, 16, 17, 1, 22, 23, 24, 25, 26, 27, 28, 29, 30, 31, 32, 33, 34, 35, 36, 37, 38, 39, 40, 41, 42, 43, 44, 45, 46, 47, 48, 49, 50, 51, 52, 53, 54, 55, 56, 57] (by decide +kernel) (by decide +kernel)
set_option maxRecDepth 20000 in
theorem gX8_offer_X8_best : GoodIn wsX8_offer (wsV RX8 146 RX8 yX8_best wsX8_best) := goodIn_app (goodIn_of _ (by decide +kernel)) ggX8_offer_X8_best
set_option maxRecDepth 20000 in
theorem ggX8_offer_X8_gain : GoodIn wsX8_offer wsX8_gain := goodIn_r _ [17, 8, 13, 1, 22, 23, 24, 25, 26, 27, 28, 29, 30, 31, 32, 33, 34, 35, 36, 37, 38, 39, 40, 41, 42, 43, 44, 45, 46, 47, 48, 49, 50, 51, 52, 53, 54, 55, 56, 57] (by decide +kernel) (by decide +kernel)
set_option maxRecDepth 20000 in
theorem gX8_offer_X8_gain : GoodIn wsX8_offer (wsV RX8 142 RX8 yX8_gain wsX8_gain) := goodIn_app (goodIn_of _ (by decide +kernel)) ggX8_offer_X8_gain
set_option maxRecDepth 20000 in
theorem ggX8_offer_X8_second : GoodIn wsX8_offer wsX8_second := goodIn_r _ [21, 8, 9, 10, 11, 6, 12, 13, 14, 15, 16, 17, 1, 22, 23, 24, 25, 26, 27, 28, 29, 30, 31, 32, 33, 34, 35, 36, 37, 38, 39, 40, 41, 42, 43, 44, 45, 46, 47, 48, 49, 50, 51, 52, 53, 54, 55, 56, 57] (by decide +kernel) (by decide +kernel)
set_option maxRecDepth 20000 in
theorem gX8_offer_X8_second : GoodIn wsX8_offer (wsV RX8 149 RX8 yX8_second wsX8_second) := goodIn_app (goodIn_of _ (by decide +kernel)) ggX8_offer_X8_second
set_option maxRecDepth 20000 in
theorem ggX8_next_X8_best : GoodIn wsX8_next wsX8_best := goodIn_r _ [7, 1, 8, 9, 10, 6, 11, 12, 13, 14, 15, 16, 17, 18, 19, 20, 21, 22, 23, 24, 25, 26, 27, 28, 29, 30, 31, 32, 33, 34, 35, 36, 37, 38, 39, 40, 41, 42, 43, 44, 45, 46, 47, 48, 49, 50, 51, 52, 53] (by decide +kernel) (by decide +kernel)
set_option maxRecDepth 20000 in
theorem gX8_next_X8_best : GoodIn wsX8_next (wsV RX8 146 RX8 yX8_best wsX8_best) := goodIn_app (goodIn_of _ (by decide +kernel)) ggX8_next_X8_best
set_option maxRecDepth 20000 in
theorem ggX8_bids_X8_best : GoodIn wsX8_bids wsX8_best := goodIn_r _ [8, 9, 10, 11, 12, 7, 13, 14, 15, 16, 17, 18, 1, 32, 33, 34, 35, 36, 37, 38, 39, 40, 41, 42, 43, 44, 45, 46, 47, 48, 49, 50, 51, 52, 53, 54, 55, 56, 57, 58, 59, 60, 61, 62, 63, 64, 65, 66, 67] (by decide +kernel) (by decide +kernel)
set_option maxRecDepth 20000 in
theorem gX8_bids_X8_best : GoodIn wsX8_bids (wsV RX8 146 RX8 yX8_best wsX8_best) := goodIn_app (goodIn_of _ (by decide +kernel)) ggX8_bids_X8_best
set_option maxRecDepth 20000 in
theorem ggX8_bids_X8_offer : GoodIn wsX8_bids wsX8_offer := goodIn_r _ [22, 1, 23, 4, 5, 6, 7, 8, 9, 10, 11, 12, 13, 14, 15, 16, 17, 18, 24, 25, 26, 27, 32, 33, 34, 35, 36, 37, 38, 39, 40, 41, 42, 43, 44, 45, 46, 47, 48, 49, 50, 51, 52, 53, 54, 55, 56, 57, 58, 59, 60, 61, 62, 63, 64, 65, 66, 67] (by decide +kernel) (by decide +kernel)
set_option maxRecDepth 20000 in
theorem gX8_bids_X8_offer : GoodIn wsX8_bids (wsV RX8 152 RX8 yX8_offer wsX8_offer) := goodIn_app (goodIn_of _ (by decide +kernel)) ggX8_bids_X8_offer
set_option maxRecDepth 20000 in
theorem ggX8_bids_X8_loses : GoodIn wsX8_bids wsX8_loses := goodIn_r _ [31, 3, 2, 32, 33, 34, 35, 36, 37, 38, 39, 40, 41, 42, 43, 44, 45, 46, 47, 48, 49, 50, 51, 52, 53, 54, 55, 56, 57, 58, 59, 60, 61, 62, 63, 64, 65, 66, 67] (by decide +kernel) (by decide +kernel)
set_option maxRecDepth 20000 in
theorem gX8_bids_X8_loses : GoodIn wsX8_bids (wsV RX8 155 RX8 yX8_loses wsX8_loses) := goodIn_app (goodIn_of _ (by decide +kernel)) ggX8_bids_X8_loses
set_option maxRecDepth 20000 in
theorem ggX8_size_X8_in : GoodIn wsX8_size wsX8_in := goodIn_r _ [10] (by decide +kernel) (by decide +kernel)
set_option maxRecDepth 20000 in
theorem gX8_size_X8_in : GoodIn wsX8_size (va_wsS RX8 92 yX8_in wsX8_in) := goodIn_app (goodIn_of _ (by decide +kernel)) ggX8_size_X8_in
set_option maxRecDepth 20000 in
theorem ggX8_size_X8_empties : GoodIn wsX8_size wsX8_empties := goodIn_r _ [14, 15, 2, 16, 22, 23, 24, 25, 26, 27, 28, 29, 30, 31, 32, 33, 34, 35, 36, 37, 38, 39, 40, 41, 42, 43, 44, 45, 46, 47, 48, 49, 50, 51, 52, 53, 54, 55, 56, 57] (by decide +kernel) (by decide +kernel)
set_option maxRecDepth 20000 in
theorem gX8_size_X8_empties : GoodIn wsX8_size (wsV RX8 88 RX8 yX8_empties wsX8_empties) := goodIn_app (goodIn_of _ (by decide +kernel)) ggX8_size_X8_empties
set_option maxRecDepth 20000 in
theorem ggX8_size_X8_free : GoodIn wsX8_size wsX8_free := goodIn_r _ [20, 21, 22, 23, 24, 25, 26, 27, 28, 29, 30, 31, 32, 33, 34, 35, 36, 37, 38, 39, 40, 41, 42, 43, 44, 45, 46, 47, 48, 49, 50, 51, 52, 53, 54, 55, 56, 57] (by decide +kernel) (by decide +kernel)
set_option maxRecDepth 20000 in
theorem gX8_size_X8_free : GoodIn wsX8_size (wsV RX8 161 RX8 yX8_free wsX8_free) := goodIn_app (goodIn_of _ (by decide +kernel)) ggX8_size_X8_free
set_option maxRecDepth 20000 in
theorem ggX8_becomes_X8_loses : GoodIn wsX8_becomes wsX8_loses := goodIn_r _ [6, 7, 8, 9, 10, 11, 12, 13, 14, 15, 16, 17, 18, 19, 20, 21, 22, 23, 24, 25, 26, 27, 28, 29, 30, 31, 32, 33, 34, 35, 36, 37, 38, 39, 40, 41, 42, 43, 44] (by decide +kernel) (by decide +kernel)
set_option maxRecDepth 20000 in
theorem gX8_becomes_X8_loses : GoodIn wsX8_becomes (wsV RX8 155 RX8 yX8_loses wsX8_loses) := goodIn_app (goodIn_of _ (by decide +kernel)) ggX8_becomes_X8_loses
set_option maxRecDepth 20000 in
theorem ggX8_worth_X8_isPair : GoodIn wsX8_worth wsX8_isPair := goodIn_r _ [7, 8, 9, 10, 6, 11, 12, 13, 14, 15, 27, 28, 29, 30, 31, 32, 33, 34, 35, 36, 37, 38, 39, 40, 41, 42, 43, 44, 45, 46, 47, 48, 49, 50, 51, 52, 53, 54, 55, 56, 57, 58, 59, 60, 61, 62] (by decide +kernel) (by decide +kernel)
set_option maxRecDepth 20000 in
theorem gX8_worth_X8_isPair : GoodIn wsX8_worth (wsV RX8 164 RX8 yX8_isPair wsX8_isPair) := goodIn_app (goodIn_of _ (by decide +kernel)) ggX8_worth_X8_isPair
set_option maxRecDepth 20000 in
theorem ggX8_worth_X8_in : GoodIn wsX8_worth wsX8_in := goodIn_r _ [15] (by decide +kernel) (by decide +kernel)
set_option maxRecDepth 20000 in
theorem gX8_worth_X8_in : GoodIn wsX8_worth (va_wsS RX8 92 yX8_in wsX8_in) := goodIn_app (goodIn_of _ (by decide +kernel)) ggX8_worth_X8_in
set_option maxRecDepth 20000 in
theorem ggX8_worth_X8_becomes : GoodIn wsX8_worth wsX8_becomes := goodIn_r _ [19, 20, 21, 22, 23, 6, 24, 25, 26, 27, 28, 29, 30, 31, 32, 33, 34, 35, 36, 37, 38, 39, 40, 41, 42, 43, 44, 45, 46, 47, 48, 49, 50, 51, 52, 53, 54, 55, 56, 57, 58, 59, 60, 61, 62] (by decide +kernel) (by decide +kernel)
set_option maxRecDepth 20000 in
theorem gX8_worth_X8_becomes : GoodIn wsX8_worth (wsV RX8 171 RX8 yX8_becomes wsX8_becomes) := goodIn_app (goodIn_of _ (by decide +kernel)) ggX8_worth_X8_becomes
set_option maxRecDepth 20000 in
theorem ggX8_step_X8_in : GoodIn wsX8_step wsX8_in := goodIn_r _ [6] (by decide +kernel) (by decide +kernel)
set_option maxRecDepth 20000 in
theorem gX8_step_X8_in : GoodIn wsX8_step (va_wsS RX8 92 yX8_in wsX8_in) := goodIn_app (goodIn_of _ (by decide +kernel)) ggX8_step_X8_in
set_option maxRecDepth 20000 in
theorem ggX8_takes_X8_here : GoodIn wsX8_takes wsX8_here := goodIn_r _ [7, 2, 8, 9, 13, 14, 15, 16, 17, 18, 19, 20, 21, 22, 23, 24, 25, 26, 27, 28, 29, 30, 31, 32, 33, 34, 35, 36, 37, 38, 39, 40, 41, 42, 43, 44, 45, 46, 47, 48] (by decide +kernel) (by decide +kernel)
set_option maxRecDepth 20000 in
theorem gX8_takes_X8_here : GoodIn wsX8_takes (wsV RX8 183 RX8 yX8_here wsX8_here) := goodIn_app (goodIn_of _ (by decide +kernel)) ggX8_takes_X8_here
set_option maxRecDepth 20000 in
theorem ggX8_takes_X8_in : GoodIn wsX8_takes wsX8_in := goodIn_r _ [12] (by decide +kernel) (by decide +kernel)
set_option maxRecDepth 20000 in
theorem gX8_takes_X8_in : GoodIn wsX8_takes (va_wsS RX8 92 yX8_in wsX8_in) := goodIn_app (goodIn_of _ (by decide +kernel)) ggX8_takes_X8_in
set_option maxRecDepth 20000 in
theorem ggX8_takesOne_X8_takes : GoodIn wsX8_takesOne wsX8_takes := goodIn_r _ [8, 1, 3, 9, 10, 11, 7, 12, 13, 14, 15, 16, 17, 18, 19, 20, 21, 22, 23, 24, 25, 26, 27, 28, 29, 30, 31, 32, 33, 34, 35, 36, 37, 38, 39, 40, 41, 42, 43, 44, 45, 46, 47, 48, 49, 50, 51, 52, 53] (by decide +kernel) (by decide +kernel)
set_option maxRecDepth 20000 in
theorem gX8_takesOne_X8_takes : GoodIn wsX8_takesOne (wsV RX8 189 RX8 yX8_takes wsX8_takes) := goodIn_app (goodIn_of _ (by decide +kernel)) ggX8_takesOne_X8_takes
set_option maxRecDepth 20000 in
theorem ggX8_takesWorth_X8_here : GoodIn wsX8_takesWorth wsX8_here := goodIn_r _ [9, 1, 10, 11, 19, 20, 21, 22, 23, 24, 25, 26, 27, 28, 29, 30, 31, 32, 33, 34, 35, 36, 37, 38, 39, 40, 41, 42, 43, 44, 45, 46, 47, 48, 49, 50, 51, 52, 53, 54] (by decide +kernel) (by decide +kernel)
set_option maxRecDepth 20000 in
theorem gX8_takesWorth_X8_here : GoodIn wsX8_takesWorth (wsV RX8 183 RX8 yX8_here wsX8_here) := goodIn_app (goodIn_of _ (by decide +kernel)) ggX8_takesWorth_X8_here
set_option maxRecDepth 20000 in
theorem ggX8_takesWorth_X8_takes : GoodIn wsX8_takesWorth wsX8_takes := goodIn_r _ [15, 2, 1, 5, 6, 7, 8, 9, 10, 11, 16, 17, 18, 19, 20, 21, 22, 23, 24, 25, 26, 27, 28, 29, 30, 31, 32, 33, 34, 35, 36, 37, 38, 39, 40, 41, 42, 43, 44, 45, 46, 47, 48, 49, 50, 51, 52, 53, 54] (by decide +kernel) (by decide +kernel)
set_option maxRecDepth 20000 in
theorem gX8_takesWorth_X8_takes : GoodIn wsX8_takesWorth (wsV RX8 189 RX8 yX8_takes wsX8_takes) := goodIn_app (goodIn_of _ (by decide +kernel)) ggX8_takesWorth_X8_takes
set_option maxRecDepth 20000 in
theorem ggX8_takesWorth_X8_in : GoodIn wsX8_takesWorth wsX8_in := goodIn_r _ [18] (by decide +kernel) (by decide +kernel)
set_option maxRecDepth 20000 in
theorem gX8_takesWorth_X8_in : GoodIn wsX8_takesWorth (va_wsS RX8 92 yX8_in wsX8_in) := goodIn_app (goodIn_of _ (by decide +kernel)) ggX8_takesWorth_X8_in
set_option maxRecDepth 20000 in
theorem ggX8_clause_X8_takesOne : GoodIn wsX8_clause wsX8_takesOne := goodIn_r _ [7, 1, 8, 9, 10, 11, 12, 6, 13, 14, 15, 16, 17, 18, 19, 20, 21, 22, 40, 41, 42, 43, 44, 45, 46, 47, 48, 49, 50, 51, 52, 53, 54, 55, 56, 57, 58, 59, 60, 61, 62, 63, 64, 65, 66, 67, 68, 69, 70, 71, 72, 73, 74, 75] (by decide +kernel) (by decide +kernel)
set_option maxRecDepth 20000 in
theorem gX8_clause_X8_takesOne : GoodIn wsX8_clause (wsV RX8 196 RX8 yX8_takesOne wsX8_takesOne) := goodIn_app (goodIn_of _ (by decide +kernel)) ggX8_clause_X8_takesOne
set_option maxRecDepth 20000 in
theorem ggX8_clause_X8_takesWorth : GoodIn wsX8_clause wsX8_takesWorth := goodIn_r _ [26, 9, 1, 27, 28, 14, 15, 16, 6, 17, 18, 19, 10, 11, 12, 13, 20, 21, 22, 40, 41, 42, 43, 44, 45, 46, 47, 48, 49, 50, 51, 52, 53, 54, 55, 56, 57, 58, 59, 60, 61, 62, 63, 64, 65, 66, 67, 68, 69, 70, 71, 72, 73, 74, 75] (by decide +kernel) (by decide +kernel)
set_option maxRecDepth 20000 in
theorem gX8_clause_X8_takesWorth : GoodIn wsX8_clause (wsV RX8 199 RX8 yX8_takesWorth wsX8_takesWorth) := goodIn_app (goodIn_of _ (by decide +kernel)) ggX8_clause_X8_takesWorth
set_option maxRecDepth 20000 in
theorem ggX8_clause_X8_becomes : GoodIn wsX8_clause wsX8_becomes := goodIn_r _ [32, 33, 34, 35, 36, 6, 37, 38, 39, 40, 41, 42, 43, 44, 45, 46, 47, 48, 49, 50, 51, 52, 53, 54, 55, 56, 57, 58, 59, 60, 61, 62, 63, 64, 65, 66, 67, 68, 69, 70, 71, 72, 73, 74, 75] (by decide +kernel) (by decide +kernel)
set_option maxRecDepth 20000 in
theorem gX8_clause_X8_becomes : GoodIn wsX8_clause (wsV RX8 171 RX8 yX8_becomes wsX8_becomes) := goodIn_app (goodIn_of _ (by decide +kernel)) ggX8_clause_X8_becomes
set_option maxRecDepth 20000 in
theorem ggX8_goesThrough_X8_clause : GoodIn wsX8_goesThrough wsX8_clause := goodIn_r _ [9, 2, 3, 10, 11, 12, 8, 13, 14, 1, 15, 16, 17, 18, 19, 20, 21, 22, 4, 23, 24, 25, 26, 27, 28, 29, 30, 31, 32, 33, 34, 35, 36, 37, 38, 39, 40, 41, 42, 43, 44, 45, 46, 47, 48, 49, 50, 51, 52, 53, 54, 55, 56, 57, 58, 59, 60, 61, 62, 63, 64, 65, 66, 67, 68, 69, 70, 71, 72, 73, 74, 75, 76, 77, 78, 79] (by decide +kernel) (by decide +kernel)
set_option maxRecDepth 20000 in
theorem gX8_goesThrough_X8_clause : GoodIn wsX8_goesThrough (wsV RX8 205 RX8 yX8_clause wsX8_clause) := goodIn_app (goodIn_of _ (by decide +kernel)) ggX8_goesThrough_X8_clause
set_option maxRecDepth 20000 in
theorem ggX8_goesThrough_X8_here : GoodIn wsX8_goesThrough wsX8_here := goodIn_r _ [22, 1, 4, 23, 44, 45, 46, 47, 48, 49, 50, 51, 52, 53, 54, 55, 56, 57, 58, 59, 60, 61, 62, 63, 64, 65, 66, 67, 68, 69, 70, 71, 72, 73, 74, 75, 76, 77, 78, 79] (by decide +kernel) (by decide +kernel)
set_option maxRecDepth 20000 in
theorem gX8_goesThrough_X8_here : GoodIn wsX8_goesThrough (wsV RX8 183 RX8 yX8_here wsX8_here) := goodIn_app (goodIn_of _ (by decide +kernel)) ggX8_goesThrough_X8_here
set_option maxRecDepth 20000 in
theorem ggX8_feed_X8_in : GoodIn wsX8_feed wsX8_in := goodIn_r _ [7] (by decide +kernel) (by decide +kernel)
set_option maxRecDepth 20000 in
theorem gX8_feed_X8_in : GoodIn wsX8_feed (va_wsS RX8 92 yX8_in wsX8_in) := goodIn_app (goodIn_of _ (by decide +kernel)) ggX8_feed_X8_in
set_option maxRecDepth 20000 in
theorem ggX8_read_X8_goesThrough : GoodIn wsX8_read wsX8_goesThrough := goodIn_r _ [9, 4, 1, 3, 2, 10, 11, 12, 8, 13, 14, 15, 16, 17, 18, 19, 20, 21, 22, 23, 24, 25, 26, 27, 28, 29, 30, 31, 32, 33, 34, 35, 36, 37, 38, 39, 40, 41, 42, 43, 44, 45, 46, 47, 53, 54, 55, 56, 57, 58, 59, 60, 61, 62, 63, 64, 65, 66, 67, 68, 69, 70, 71, 72, 73, 74, 75, 76, 77, 78, 79, 80, 81, 82, 83, 84, 85, 86, 87, 88] (by decide +kernel) (by decide +kernel)
set_option maxRecDepth 20000 in
theorem gX8_read_X8_goesThrough : GoodIn wsX8_read (wsV RX8 211 RX8 yX8_goesThrough wsX8_goesThrough) := goodIn_app (goodIn_of _ (by decide +kernel)) ggX8_read_X8_goesThrough
set_option maxRecDepth 20000 in
theorem ggX8_read_X8_tellsWrong : GoodIn wsX8_read wsX8_tellsWrong := goodIn_r _ [51, 52, 53, 54, 55, 56, 57, 58, 59, 60, 61, 62, 63, 64, 65, 66, 67, 68, 69, 70, 71, 72, 73, 74, 75, 76, 77, 78, 79, 80, 81, 82, 83, 84, 85, 86, 87, 88] (by decide +kernel) (by decide +kernel)
set_option maxRecDepth 20000 in
theorem gX8_read_X8_tellsWrong : GoodIn wsX8_read (wsV RX8 214 RX8 yX8_tellsWrong wsX8_tellsWrong) := goodIn_app (goodIn_of _ (by decide +kernel)) ggX8_read_X8_tellsWrong
set_option maxRecDepth 20000 in
theorem ggX8_bidsAll_X8_next : GoodIn wsX8_bidsAll wsX8_next := goodIn_r _ [7, 8, 9, 10, 11, 12, 6, 13, 14, 15, 16, 17, 18, 19, 20, 21, 22, 2, 50, 51, 52, 53, 54, 55, 56, 57, 58, 59, 60, 61, 62, 63, 64, 65, 66, 67, 68, 69, 70, 71, 72, 73, 74, 75, 76, 77, 78, 79, 80, 81, 82, 83, 84, 85] (by decide +kernel) (by decide +kernel)
set_option maxRecDepth 20000 in
theorem gX8_bidsAll_X8_next : GoodIn wsX8_bidsAll (wsV RX8 221 RX8 yX8_next wsX8_next) := goodIn_app (goodIn_of _ (by decide +kernel)) ggX8_bidsAll_X8_next
set_option maxRecDepth 20000 in
theorem ggX8_bidsAll_X8_bids : GoodIn wsX8_bidsAll wsX8_bids := goodIn_r _ [26, 2, 27, 9, 10, 11, 12, 6, 13, 8, 14, 15, 16, 17, 18, 19, 20, 21, 22, 28, 29, 30, 31, 32, 33, 34, 35, 36, 37, 38, 39, 40, 50, 51, 52, 53, 54, 55, 56, 57, 58, 59, 60, 61, 62, 63, 64, 65, 66, 67, 68, 69, 70, 71, 72, 73, 74, 75, 76, 77, 78, 79, 80, 81, 82, 83, 84, 85] (by decide +kernel) (by decide +kernel)
set_option maxRecDepth 20000 in
theorem gX8_bidsAll_X8_bids : GoodIn wsX8_bidsAll (wsV RX8 224 RX8 yX8_bids wsX8_bids) := goodIn_app (goodIn_of _ (by decide +kernel)) ggX8_bidsAll_X8_bids
set_option maxRecDepth 20000 in
theorem ggX8_bidsAll_X8_tellsWrong : GoodIn wsX8_bidsAll wsX8_tellsWrong := goodIn_r _ [44, 45, 50, 51, 52, 53, 54, 55, 56, 57, 58, 59, 60, 61, 62, 63, 64, 65, 66, 67, 68, 69, 70, 71, 72, 73, 74, 75, 76, 77, 78, 79, 80, 81, 82, 83, 84, 85] (by decide +kernel) (by decide +kernel)
set_option maxRecDepth 20000 in
theorem gX8_bidsAll_X8_tellsWrong : GoodIn wsX8_bidsAll (wsV RX8 214 RX8 yX8_tellsWrong wsX8_tellsWrong) := goodIn_app (goodIn_of _ (by decide +kernel)) ggX8_bidsAll_X8_tellsWrong
set_option maxRecDepth 20000 in
theorem ggX8_bidsAll_X8_tellsLeft : GoodIn wsX8_bidsAll wsX8_tellsLeft := goodIn_r _ [49, 8, 9, 41, 42, 43, 6, 44, 45, 50, 51, 52, 53, 54, 55, 56, 57, 58, 59, 60, 61, 62, 63, 64, 65, 66, 67, 68, 69, 70, 71, 72, 73, 74, 75, 76, 77, 78, 79, 80, 81, 82, 83, 84, 85] (by decide +kernel) (by decide +kernel)
set_option maxRecDepth 20000 in
theorem gX8_bidsAll_X8_tellsLeft : GoodIn wsX8_bidsAll (wsV RX8 227 RX8 yX8_tellsLeft wsX8_tellsLeft) := goodIn_app (goodIn_of _ (by decide +kernel)) ggX8_bidsAll_X8_tellsLeft
set_option maxRecDepth 20000 in
theorem ggX8_tellsLeft_X8_tellsWrong : GoodIn wsX8_tellsLeft wsX8_tellsWrong := goodIn_r _ [7, 8, 9, 10, 11, 12, 13, 14, 15, 16, 17, 18, 19, 20, 21, 22, 23, 24, 25, 26, 27, 28, 29, 30, 31, 32, 33, 34, 35, 36, 37, 38, 39, 40, 41, 42, 43, 44] (by decide +kernel) (by decide +kernel)
set_option maxRecDepth 20000 in
theorem gX8_tellsLeft_X8_tellsWrong : GoodIn wsX8_tellsLeft (wsV RX8 214 RX8 yX8_tellsWrong wsX8_tellsWrong) := goodIn_app (goodIn_of _ (by decide +kernel)) ggX8_tellsLeft_X8_tellsWrong
set_option maxRecDepth 20000 in
theorem ggX8_bid_X8_next : GoodIn wsX8_bid wsX8_next := goodIn_r _ [5, 6, 7, 8, 9, 10, 4, 11, 12, 13, 14, 15, 16, 17, 18, 19, 20, 21, 40, 41, 42, 43, 44, 45, 46, 47, 48, 49, 50, 51, 52, 53, 54, 55, 56, 57, 58, 59, 60, 61, 62, 63, 64, 65, 66, 67, 68, 69, 70, 71, 72, 73, 74, 75] (by decide +kernel) (by decide +kernel)
set_option maxRecDepth 20000 in
theorem gX8_bid_X8_next : GoodIn wsX8_bid (wsV RX8 221 RX8 yX8_next wsX8_next) := goodIn_app (goodIn_of _ (by decide +kernel)) ggX8_bid_X8_next
set_option maxRecDepth 20000 in
theorem ggX8_bid_X8_bids : GoodIn wsX8_bid wsX8_bids := goodIn_r _ [25, 21, 26, 7, 8, 9, 10, 4, 11, 6, 12, 13, 14, 15, 16, 17, 18, 19, 20, 27, 28, 29, 30, 31, 32, 33, 34, 35, 36, 37, 38, 39, 40, 41, 42, 43, 44, 45, 46, 47, 48, 49, 50, 51, 52, 53, 54, 55, 56, 57, 58, 59, 60, 61, 62, 63, 64, 65, 66, 67, 68, 69, 70, 71, 72, 73, 74, 75] (by decide +kernel) (by decide +kernel)
set_option maxRecDepth 20000 in
theorem gX8_bid_X8_bids : GoodIn wsX8_bid (wsV RX8 224 RX8 yX8_bids wsX8_bids) := goodIn_app (goodIn_of _ (by decide +kernel)) ggX8_bid_X8_bids
set_option maxRecDepth 20000 in
theorem ggX8_auction_X8_bidsAll : GoodIn wsX8_auction wsX8_bidsAll := goodIn_r _ [6, 1, 7, 8, 9, 10, 5, 11, 12, 13, 14, 15, 16, 17, 18, 19, 20, 21, 22, 23, 24, 25, 26, 27, 28, 29, 30, 31, 32, 33, 34, 35, 36, 37, 38, 39, 40, 41, 42, 43, 44, 45, 46, 47, 48, 49, 50, 51, 52, 53, 54, 55, 56, 57, 58, 59, 60, 61, 62, 63, 64, 65, 66, 67, 68, 69, 70, 71, 72, 73, 74, 75, 76, 77, 78, 79, 80, 81, 82, 83, 84, 85, 86, 87, 88, 89] (by decide +kernel) (by decide +kernel)
set_option maxRecDepth 20000 in
theorem gX8_auction_X8_bidsAll : GoodIn wsX8_auction (wsV RX8 230 RX8 yX8_bidsAll wsX8_bidsAll) := goodIn_app (goodIn_of _ (by decide +kernel)) ggX8_auction_X8_bidsAll
set_option maxRecDepth 20000 in
theorem ggX8_scaled_X8_empties : GoodIn wsX8_scaled wsX8_empties := goodIn_r _ [7, 8, 9, 10, 58, 59, 60, 61, 62, 63, 64, 65, 66, 67, 68, 69, 70, 71, 72, 73, 74, 75, 76, 77, 78, 79, 80, 81, 82, 83, 84, 85, 86, 87, 88, 89, 90, 91, 92, 93] (by decide +kernel) (by decide +kernel)
set_option maxRecDepth 20000 in
theorem gX8_scaled_X8_empties : GoodIn wsX8_scaled (wsV RX8 88 RX8 yX8_empties wsX8_empties) := goodIn_app (goodIn_of _ (by decide +kernel)) ggX8_scaled_X8_empties
set_option maxRecDepth 20000 in
theorem ggX8_scaled_X8_bidsAll : GoodIn wsX8_scaled wsX8_bidsAll := goodIn_r _ [14, 2, 15, 16, 17, 18, 6, 19, 9, 8, 20, 21, 22, 23, 24, 25, 26, 27, 28, 29, 30, 31, 32, 33, 34, 35, 36, 10, 37, 38, 39, 40, 1, 41, 42, 43, 44, 45, 46, 47, 48, 49, 50, 51, 52, 53, 54, 55, 56, 57, 58, 59, 60, 61, 62, 63, 64, 65, 66, 67, 68, 69, 70, 71, 72, 73, 74, 75, 76, 77, 78, 79, 80, 81, 82, 83, 84, 85, 86, 87, 88, 89, 90, 91, 92, 93] (by decide +kernel) (by decide +kernel)
set_option maxRecDepth 20000 in
theorem gX8_scaled_X8_bidsAll : GoodIn wsX8_scaled (wsV RX8 230 RX8 yX8_bidsAll wsX8_bidsAll) := goodIn_app (goodIn_of _ (by decide +kernel)) ggX8_scaled_X8_bidsAll
set_option maxRecDepth 20000 in
theorem ggX8_fresh_X8_free : GoodIn wsX8_fresh wsX8_free := goodIn_r _ [5, 6, 14, 15, 16, 17, 18, 19, 20, 21, 22, 23, 24, 25, 26, 27, 28, 29, 30, 31, 32, 33, 34, 35, 36, 37, 38, 39, 40, 41, 42, 43, 44, 45, 46, 47, 48, 49] (by decide +kernel) (by decide +kernel)
set_option maxRecDepth 20000 in
theorem gX8_fresh_X8_free : GoodIn wsX8_fresh (wsV RX8 161 RX8 yX8_free wsX8_free) := goodIn_app (goodIn_of _ (by decide +kernel)) ggX8_fresh_X8_free
set_option maxRecDepth 20000 in
theorem ggX8_fresh_X8_empties : GoodIn wsX8_fresh wsX8_empties := goodIn_r _ [10, 11, 12, 13, 14, 15, 16, 17, 18, 19, 20, 21, 22, 23, 24, 25, 26, 27, 28, 29, 30, 31, 32, 33, 34, 35, 36, 37, 38, 39, 40, 41, 42, 43, 44, 45, 46, 47, 48, 49] (by decide +kernel) (by decide +kernel)
set_option maxRecDepth 20000 in
theorem gX8_fresh_X8_empties : GoodIn wsX8_fresh (wsV RX8 88 RX8 yX8_empties wsX8_empties) := goodIn_app (goodIn_of _ (by decide +kernel)) ggX8_fresh_X8_empties
set_option maxRecDepth 20000 in
theorem ggX8_leave_X8_isOne : GoodIn wsX8_leave wsX8_isOne := goodIn_r _ [6, 7, 8, 9, 5, 10, 16, 17, 18, 19, 20, 21, 22, 23, 24, 25, 26, 27, 28, 29, 30, 31, 32, 33, 34, 35, 36, 37, 38, 39, 40, 41, 42, 43, 44, 45, 46, 47, 48, 49, 50, 51] (by decide +kernel) (by decide +kernel)
set_option maxRecDepth 20000 in
theorem gX8_leave_X8_isOne : GoodIn wsX8_leave (wsV RX8 96 RX8 yX8_isOne wsX8_isOne) := goodIn_app (goodIn_of _ (by decide +kernel)) ggX8_leave_X8_isOne
set_option maxRecDepth 20000 in
theorem ggX8_leave_X8_loses : GoodIn wsX8_leave wsX8_loses := goodIn_r _ [14, 1, 15, 16, 17, 18, 19, 20, 21, 22, 23, 24, 25, 26, 27, 28, 29, 30, 31, 32, 33, 34, 35, 36, 37, 38, 39, 40, 41, 42, 43, 44, 45, 46, 47, 48, 49, 50, 51] (by decide +kernel) (by decide +kernel)
set_option maxRecDepth 20000 in
theorem gX8_leave_X8_loses : GoodIn wsX8_leave (wsV RX8 155 RX8 yX8_loses wsX8_loses) := goodIn_app (goodIn_of _ (by decide +kernel)) ggX8_leave_X8_loses
set_option maxRecDepth 20000 in
theorem ggX8_of_X8_isPair : GoodIn wsX8_of wsX8_isPair := goodIn_r _ [8, 9, 10, 11, 7, 12, 13, 14, 15, 16, 26, 27, 28, 29, 30, 31, 32, 33, 34, 35, 36, 37, 38, 39, 40, 41, 42, 43, 44, 45, 46, 47, 48, 49, 50, 51, 52, 53, 54, 55, 56, 57, 58, 59, 60, 61] (by decide +kernel) (by decide +kernel)
set_option maxRecDepth 20000 in
theorem gX8_of_X8_isPair : GoodIn wsX8_of (wsV RX8 164 RX8 yX8_isPair wsX8_isPair) := goodIn_app (goodIn_of _ (by decide +kernel)) ggX8_of_X8_isPair
set_option maxRecDepth 20000 in
theorem ggX8_of_X8_in : GoodIn wsX8_of wsX8_in := goodIn_r _ [16] (by decide +kernel) (by decide +kernel)
set_option maxRecDepth 20000 in
theorem gX8_of_X8_in : GoodIn wsX8_of (va_wsS RX8 92 yX8_in wsX8_in) := goodIn_app (goodIn_of _ (by decide +kernel)) ggX8_of_X8_in
set_option maxRecDepth 20000 in
theorem ggX8_of_X8_may : GoodIn wsX8_of wsX8_may := goodIn_r _ [20, 3, 26, 27, 28, 29, 30, 31, 32, 33, 34, 35, 36, 37, 38, 39, 40, 41, 42, 43, 44, 45, 46, 47, 48, 49, 50, 51, 52, 53, 54, 55, 56, 57, 58, 59, 60, 61] (by decide +kernel) (by decide +kernel)
set_option maxRecDepth 20000 in
theorem gX8_of_X8_may : GoodIn wsX8_of (wsV RX8 138 RX8 yX8_may wsX8_may) := goodIn_app (goodIn_of _ (by decide +kernel)) ggX8_of_X8_may
set_option maxRecDepth 20000 in
theorem ggX8_of_X8_gain : GoodIn wsX8_of wsX8_gain := goodIn_r _ [24, 13, 3, 25, 26, 27, 28, 29, 30, 31, 32, 33, 34, 35, 36, 37, 38, 39, 40, 41, 42, 43, 44, 45, 46, 47, 48, 49, 50, 51, 52, 53, 54, 55, 56, 57, 58, 59, 60, 61] (by decide +kernel) (by decide +kernel)
set_option maxRecDepth 20000 in
theorem gX8_of_X8_gain : GoodIn wsX8_of (wsV RX8 142 RX8 yX8_gain wsX8_gain) := goodIn_app (goodIn_of _ (by decide +kernel)) ggX8_of_X8_gain
set_option maxRecDepth 20000 in
theorem ggX8_envy_X8_gain : GoodIn wsX8_envy wsX8_gain := goodIn_r _ [7, 2, 8, 9, 14, 15, 16, 17, 18, 19, 20, 21, 22, 23, 24, 25, 26, 27, 28, 29, 30, 31, 32, 33, 34, 35, 36, 37, 38, 39, 40, 41, 42, 43, 44, 45, 46, 47, 48, 49] (by decide +kernel) (by decide +kernel)
set_option maxRecDepth 20000 in
theorem gX8_envy_X8_gain : GoodIn wsX8_envy (wsV RX8 142 RX8 yX8_gain wsX8_gain) := goodIn_app (goodIn_of _ (by decide +kernel)) ggX8_envy_X8_gain
set_option maxRecDepth 20000 in
theorem ggX8_envy_X8_may : GoodIn wsX8_envy wsX8_may := goodIn_r _ [13, 8, 14, 15, 16, 17, 18, 19, 20, 21, 22, 23, 24, 25, 26, 27, 28, 29, 30, 31, 32, 33, 34, 35, 36, 37, 38, 39, 40, 41, 42, 43, 44, 45, 46, 47, 48, 49] (by decide +kernel) (by decide +kernel)
set_option maxRecDepth 20000 in
theorem gX8_envy_X8_may : GoodIn wsX8_envy (wsV RX8 138 RX8 yX8_may wsX8_may) := goodIn_app (goodIn_of _ (by decide +kernel)) ggX8_envy_X8_may
set_option maxRecDepth 20000 in
theorem ggX8_open_X8_may : GoodIn wsX8_open wsX8_may := goodIn_r _ [6, 7, 8, 9, 10, 11, 12, 13, 14, 15, 16, 17, 18, 19, 20, 21, 22, 23, 24, 25, 26, 27, 28, 29, 30, 31, 32, 33, 34, 35, 36, 37, 38, 39, 40, 41, 42, 43] (by decide +kernel) (by decide +kernel)
set_option maxRecDepth 20000 in
theorem gX8_open_X8_may : GoodIn wsX8_open (wsV RX8 138 RX8 yX8_may wsX8_may) := goodIn_app (goodIn_of _ (by decide +kernel)) ggX8_open_X8_may
set_option maxRecDepth 20000 in
theorem ggX8_person_X8_isOne : GoodIn wsX8_person wsX8_isOne := goodIn_r _ [6, 7, 8, 9, 5, 10, 36, 37, 38, 39, 40, 41, 42, 43, 44, 45, 46, 47, 48, 49, 50, 51, 52, 53, 54, 55, 56, 57, 58, 59, 60, 61, 62, 63, 64, 65, 66, 67, 68, 69, 70, 71] (by decide +kernel) (by decide +kernel)
set_option maxRecDepth 20000 in
theorem gX8_person_X8_isOne : GoodIn wsX8_person (wsV RX8 96 RX8 yX8_isOne wsX8_isOne) := goodIn_app (goodIn_of _ (by decide +kernel)) ggX8_person_X8_isOne
set_option maxRecDepth 20000 in
theorem ggX8_person_X8_best : GoodIn wsX8_person wsX8_best := goodIn_r _ [14, 7, 15, 16, 17, 5, 18, 19, 20, 21, 22, 23, 24, 36, 37, 38, 39, 40, 41, 42, 43, 44, 45, 46, 47, 48, 49, 50, 51, 52, 53, 54, 55, 56, 57, 58, 59, 60, 61, 62, 63, 64, 65, 66, 67, 68, 69, 70, 71] (by decide +kernel) (by decide +kernel)
set_option maxRecDepth 20000 in
theorem gX8_person_X8_best : GoodIn wsX8_person (wsV RX8 146 RX8 yX8_best wsX8_best) := goodIn_app (goodIn_of _ (by decide +kernel)) ggX8_person_X8_best
set_option maxRecDepth 20000 in
theorem ggX8_person_X8_envy : GoodIn wsX8_person wsX8_envy := goodIn_r _ [28, 1, 7, 20, 21, 22, 5, 23, 19, 24, 15, 16, 17, 18, 36, 37, 38, 39, 40, 41, 42, 43, 44, 45, 46, 47, 48, 49, 50, 51, 52, 53, 54, 55, 56, 57, 58, 59, 60, 61, 62, 63, 64, 65, 66, 67, 68, 69, 70, 71] (by decide +kernel) (by decide +kernel)
set_option maxRecDepth 20000 in
theorem gX8_person_X8_envy : GoodIn wsX8_person (wsV RX8 237 RX8 yX8_envy wsX8_envy) := goodIn_app (goodIn_of _ (by decide +kernel)) ggX8_person_X8_envy
set_option maxRecDepth 20000 in
theorem ggX8_person_X8_open : GoodIn wsX8_person wsX8_open := goodIn_r _ [32, 7, 15, 16, 17, 5, 18, 19, 36, 37, 38, 39, 40, 41, 42, 43, 44, 45, 46, 47, 48, 49, 50, 51, 52, 53, 54, 55, 56, 57, 58, 59, 60, 61, 62, 63, 64, 65, 66, 67, 68, 69, 70, 71] (by decide +kernel) (by decide +kernel)
set_option maxRecDepth 20000 in
theorem gX8_person_X8_open : GoodIn wsX8_person (wsV RX8 240 RX8 yX8_open wsX8_open) := goodIn_app (goodIn_of _ (by decide +kernel)) ggX8_person_X8_open
set_option maxRecDepth 20000 in
theorem ggX8_person_X8_bits : GoodIn wsX8_person wsX8_bits := goodIn_r _ [35] (by decide +kernel) (by decide +kernel)
set_option maxRecDepth 20000 in
theorem gX8_person_X8_bits : GoodIn wsX8_person (va_wsS RX8 243 yX8_bits wsX8_bits) := goodIn_app (goodIn_of _ (by decide +kernel)) ggX8_person_X8_bits
set_option maxRecDepth 20000 in
theorem ggX8_wanted_X8_best : GoodIn wsX8_wanted wsX8_best := goodIn_r _ [6, 1, 7, 8, 9, 5, 10, 11, 12, 13, 14, 15, 16, 17, 18, 19, 20, 21, 22, 23, 24, 25, 26, 27, 28, 29, 30, 31, 32, 33, 34, 35, 36, 37, 38, 39, 40, 41, 42, 43, 44, 45, 46, 47, 48, 49, 50, 51, 52] (by decide +kernel) (by decide +kernel)
set_option maxRecDepth 20000 in
theorem gX8_wanted_X8_best : GoodIn wsX8_wanted (wsV RX8 146 RX8 yX8_best wsX8_best) := goodIn_app (goodIn_of _ (by decide +kernel)) ggX8_wanted_X8_best
set_option maxRecDepth 20000 in
theorem ggX8_thing_X8_isOne : GoodIn wsX8_thing wsX8_isOne := goodIn_r _ [7, 8, 9, 10, 6, 11, 29, 30, 31, 32, 33, 34, 35, 36, 37, 38, 39, 40, 41, 42, 43, 44, 45, 46, 47, 48, 49, 50, 51, 52, 53, 54, 55, 56, 57, 58, 59, 60, 61, 62, 63, 64] (by decide +kernel) (by decide +kernel)
set_option maxRecDepth 20000 in
theorem gX8_thing_X8_isOne : GoodIn wsX8_thing (wsV RX8 96 RX8 yX8_isOne wsX8_isOne) := goodIn_app (goodIn_of _ (by decide +kernel)) ggX8_thing_X8_isOne
set_option maxRecDepth 20000 in
theorem ggX8_thing_X8_wanted : GoodIn wsX8_thing wsX8_wanted := goodIn_r _ [15, 8, 16, 17, 18, 6, 19, 20, 21, 22, 23, 24, 25, 26, 27, 28, 1, 29, 30, 31, 32, 33, 34, 35, 36, 37, 38, 39, 40, 41, 42, 43, 44, 45, 46, 47, 48, 49, 50, 51, 52, 53, 54, 55, 56, 57, 58, 59, 60, 61, 62, 63, 64] (by decide +kernel) (by decide +kernel)
set_option maxRecDepth 20000 in
theorem gX8_thing_X8_wanted : GoodIn wsX8_thing (wsV RX8 246 RX8 yX8_wanted wsX8_wanted) := goodIn_app (goodIn_of _ (by decide +kernel)) ggX8_thing_X8_wanted
set_option maxRecDepth 20000 in
theorem ggX8_most_X8_bits : GoodIn wsX8_most wsX8_bits := goodIn_r _ [11] (by decide +kernel) (by decide +kernel)
set_option maxRecDepth 20000 in
theorem gX8_most_X8_bits : GoodIn wsX8_most (va_wsS RX8 243 yX8_bits wsX8_bits) := goodIn_app (goodIn_of _ (by decide +kernel)) ggX8_most_X8_bits
set_option maxRecDepth 20000 in
theorem ggX8_most_X8_may : GoodIn wsX8_most wsX8_may := goodIn_r _ [15, 3, 16, 17, 18, 19, 20, 21, 22, 23, 24, 25, 26, 27, 28, 29, 30, 31, 32, 33, 34, 35, 36, 37, 38, 39, 40, 41, 42, 43, 44, 45, 46, 47, 48, 49, 50, 51] (by decide +kernel) (by decide +kernel)
set_option maxRecDepth 20000 in
theorem gX8_most_X8_may : GoodIn wsX8_most (wsV RX8 138 RX8 yX8_may wsX8_may) := goodIn_app (goodIn_of _ (by decide +kernel)) ggX8_most_X8_may
set_option maxRecDepth 20000 in
theorem ggX8_sure_X8_best : GoodIn wsX8_sure wsX8_best := goodIn_r _ [8, 1, 9, 10, 11, 7, 12, 13, 14, 15, 16, 17, 18, 19, 20, 21, 22, 23, 24, 25, 26, 27, 28, 29, 30, 31, 32, 33, 34, 35, 36, 37, 38, 39, 40, 41, 42, 43, 44, 45, 46, 47, 48, 49, 50, 51, 52, 53, 54] (by decide +kernel) (by decide +kernel)
set_option maxRecDepth 20000 in
theorem gX8_sure_X8_best : GoodIn wsX8_sure (wsV RX8 146 RX8 yX8_best wsX8_best) := goodIn_app (goodIn_of _ (by decide +kernel)) ggX8_sure_X8_best
set_option maxRecDepth 20000 in
theorem ggX8_sure_X8_gain : GoodIn wsX8_sure wsX8_gain := goodIn_r _ [17, 1, 13, 18, 19, 20, 21, 22, 23, 24, 25, 26, 27, 28, 29, 30, 31, 32, 33, 34, 35, 36, 37, 38, 39, 40, 41, 42, 43, 44, 45, 46, 47, 48, 49, 50, 51, 52, 53, 54] (by decide +kernel) (by decide +kernel)
set_option maxRecDepth 20000 in
theorem gX8_sure_X8_gain : GoodIn wsX8_sure (wsV RX8 142 RX8 yX8_gain wsX8_gain) := goodIn_app (goodIn_of _ (by decide +kernel)) ggX8_sure_X8_gain
set_option maxRecDepth 20000 in
theorem ggX8_lack_X8_open : GoodIn wsX8_lack wsX8_open := goodIn_r _ [6, 1, 7, 8, 9, 5, 10, 11, 15, 16, 17, 18, 19, 20, 21, 22, 23, 24, 25, 26, 27, 28, 29, 30, 31, 32, 33, 34, 35, 36, 37, 38, 39, 40, 41, 42, 43, 44, 45, 46, 47, 48, 49, 50] (by decide +kernel) (by decide +kernel)
set_option maxRecDepth 20000 in
theorem gX8_lack_X8_open : GoodIn wsX8_lack (wsV RX8 240 RX8 yX8_open wsX8_open) := goodIn_app (goodIn_of _ (by decide +kernel)) ggX8_lack_X8_open
set_option maxRecDepth 20000 in
theorem ggX8_lack_X8_bits : GoodIn wsX8_lack wsX8_bits := goodIn_r _ [14] (by decide +kernel) (by decide +kernel)
set_option maxRecDepth 20000 in
theorem gX8_lack_X8_bits : GoodIn wsX8_lack (va_wsS RX8 243 yX8_bits wsX8_bits) := goodIn_app (goodIn_of _ (by decide +kernel)) ggX8_lack_X8_bits
set_option maxRecDepth 20000 in
theorem ggX8_told_X8_sum : GoodIn wsX8_told wsX8_sum := goodIn_r _ [7, 1, 8, 9, 67, 68, 69, 70, 71, 72, 73, 74, 75, 76, 77, 78, 79, 80, 81, 82, 83, 84, 85, 86, 87, 88, 89, 90, 91, 92, 93, 94, 95, 96, 97, 98, 99, 100, 101, 102] (by decide +kernel) (by decide +kernel)
set_option maxRecDepth 20000 in
theorem gX8_told_X8_sum : GoodIn wsX8_told (wsV RX8 254 RX8 yX8_sum wsX8_sum) := goodIn_app (goodIn_of _ (by decide +kernel)) ggX8_told_X8_sum
set_option maxRecDepth 20000 in
theorem ggX8_told_X8_most : GoodIn wsX8_told wsX8_most := goodIn_r _ [13, 1, 14, 9, 15, 16, 17, 18, 19, 20, 6, 21, 22, 23, 24, 25, 67, 68, 69, 70, 71, 72, 73, 74, 75, 76, 77, 78, 79, 80, 81, 82, 83, 84, 85, 86, 87, 88, 89, 90, 91, 92, 93, 94, 95, 96, 97, 98, 99, 100, 101, 102] (by decide +kernel) (by decide +kernel)
set_option maxRecDepth 20000 in
theorem gX8_told_X8_most : GoodIn wsX8_told (wsV RX8 257 RX8 yX8_most wsX8_most) := goodIn_app (goodIn_of _ (by decide +kernel)) ggX8_told_X8_most
set_option maxRecDepth 20000 in
theorem ggX8_told_X8_sure : GoodIn wsX8_told wsX8_sure := goodIn_r _ [29, 1, 8, 2, 30, 31, 32, 6, 33, 22, 23, 24, 25, 9, 34, 35, 36, 37, 38, 67, 68, 69, 70, 71, 72, 73, 74, 75, 76, 77, 78, 79, 80, 81, 82, 83, 84, 85, 86, 87, 88, 89, 90, 91, 92, 93, 94, 95, 96, 97, 98, 99, 100, 101, 102] (by decide +kernel) (by decide +kernel)
set_option maxRecDepth 20000 in
theorem gX8_told_X8_sure : GoodIn wsX8_told (wsV RX8 260 RX8 yX8_sure wsX8_sure) := goodIn_app (goodIn_of _ (by decide +kernel)) ggX8_told_X8_sure
set_option maxRecDepth 20000 in
theorem ggX8_told_X8_lack : GoodIn wsX8_told wsX8_lack := goodIn_r _ [42, 1, 43, 44, 45, 6, 46, 22, 23, 24, 25, 9, 19, 20, 21, 67, 68, 69, 70, 71, 72, 73, 74, 75, 76, 77, 78, 79, 80, 81, 82, 83, 84, 85, 86, 87, 88, 89, 90, 91, 92, 93, 94, 95, 96, 97, 98, 99, 100, 101, 102] (by decide +kernel) (by decide +kernel)
set_option maxRecDepth 20000 in
theorem gX8_told_X8_lack : GoodIn wsX8_told (wsV RX8 263 RX8 yX8_lack wsX8_lack) := goodIn_app (goodIn_of _ (by decide +kernel)) ggX8_told_X8_lack
set_option maxRecDepth 20000 in
theorem ggX8_told_X8_next : GoodIn wsX8_told wsX8_next := goodIn_r _ [50, 1, 8, 30, 31, 32, 6, 33, 22, 23, 24, 25, 9, 34, 35, 36, 37, 38, 67, 68, 69, 70, 71, 72, 73, 74, 75, 76, 77, 78, 79, 80, 81, 82, 83, 84, 85, 86, 87, 88, 89, 90, 91, 92, 93, 94, 95, 96, 97, 98, 99, 100, 101, 102] (by decide +kernel) (by decide +kernel)
set_option maxRecDepth 20000 in
theorem gX8_told_X8_next : GoodIn wsX8_told (wsV RX8 221 RX8 yX8_next wsX8_next) := goodIn_app (goodIn_of _ (by decide +kernel)) ggX8_told_X8_next
set_option maxRecDepth 20000 in
theorem ggX8_told_X8_offer : GoodIn wsX8_told wsX8_offer := goodIn_r _ [54, 38, 2, 30, 31, 32, 6, 33, 1, 22, 23, 24, 25, 9, 34, 35, 36, 37, 55, 56, 57, 58, 67, 68, 69, 70, 71, 72, 73, 74, 75, 76, 77, 78, 79, 80, 81, 82, 83, 84, 85, 86, 87, 88, 89, 90, 91, 92, 93, 94, 95, 96, 97, 98, 99, 100, 101, 102] (by decide +kernel) (by decide +kernel)
set_option maxRecDepth 20000 in
theorem gX8_told_X8_offer : GoodIn wsX8_told (wsV RX8 152 RX8 yX8_offer wsX8_offer) := goodIn_app (goodIn_of _ (by decide +kernel)) ggX8_told_X8_offer
set_option maxRecDepth 20000 in
theorem ggX8_told_X8_havers : GoodIn wsX8_told wsX8_havers := goodIn_r _ [62, 1, 8, 67, 68, 69, 70, 71, 72, 73, 74, 75, 76, 77, 78, 79, 80, 81, 82, 83, 84, 85, 86, 87, 88, 89, 90, 91, 92, 93, 94, 95, 96, 97, 98, 99, 100, 101, 102] (by decide +kernel) (by decide +kernel)
set_option maxRecDepth 20000 in
theorem gX8_told_X8_havers : GoodIn wsX8_told (wsV RX8 266 RX8 yX8_havers wsX8_havers) := goodIn_app (goodIn_of _ (by decide +kernel)) ggX8_told_X8_havers
set_option maxRecDepth 20000 in
theorem ggX8_told_X8_prices : GoodIn wsX8_told wsX8_prices := goodIn_r _ [66, 1, 38, 67, 68, 69, 70, 71, 72, 73, 74, 75, 76, 77, 78, 79, 80, 81, 82, 83, 84, 85, 86, 87, 88, 89, 90, 91, 92, 93, 94, 95, 96, 97, 98, 99, 100, 101, 102] (by decide +kernel) (by decide +kernel)
set_option maxRecDepth 20000 in
theorem gX8_told_X8_prices : GoodIn wsX8_told (wsV RX8 269 RX8 yX8_prices wsX8_prices) := goodIn_app (goodIn_of _ (by decide +kernel)) ggX8_told_X8_prices
set_option maxRecDepth 20000 in
theorem ggX8_see_X8_isPair : GoodIn wsX8_see wsX8_isPair := goodIn_r _ [8, 9, 10, 11, 7, 12, 13, 14, 15, 16, 17, 18, 19, 20, 21, 22, 23, 24, 25, 26, 27, 28, 29, 30, 31, 32, 33, 34, 35, 36, 37, 38, 39, 40, 41, 42, 43, 44, 45, 46, 47, 48, 49, 50, 51, 52] (by decide +kernel) (by decide +kernel)
set_option maxRecDepth 20000 in
theorem gX8_see_X8_isPair : GoodIn wsX8_see (wsV RX8 164 RX8 yX8_isPair wsX8_isPair) := goodIn_app (goodIn_of _ (by decide +kernel)) ggX8_see_X8_isPair
set_option maxRecDepth 20000 in
theorem ggX8_triesAuction_X8_empties : GoodIn wsX8_triesAuction wsX8_empties := goodIn_r _ [5, 6, 7, 8, 62, 63, 64, 65, 66, 67, 68, 69, 70, 71, 72, 73, 74, 75, 76, 77, 78, 79, 80, 81, 82, 83, 84, 85, 86, 87, 88, 89, 90, 91, 92, 93, 94, 95, 96, 97] (by decide +kernel) (by decide +kernel)
set_option maxRecDepth 20000 in
theorem gX8_triesAuction_X8_empties : GoodIn wsX8_triesAuction (wsV RX8 88 RX8 yX8_empties wsX8_empties) := goodIn_app (goodIn_of _ (by decide +kernel)) ggX8_triesAuction_X8_empties
set_option maxRecDepth 20000 in
theorem ggX8_triesAuction_X8_free : GoodIn wsX8_triesAuction wsX8_free := goodIn_r _ [12, 13, 62, 63, 64, 65, 66, 67, 68, 69, 70, 71, 72, 73, 74, 75, 76, 77, 78, 79, 80, 81, 82, 83, 84, 85, 86, 87, 88, 89, 90, 91, 92, 93, 94, 95, 96, 97] (by decide +kernel) (by decide +kernel)
set_option maxRecDepth 20000 in
theorem gX8_triesAuction_X8_free : GoodIn wsX8_triesAuction (wsV RX8 161 RX8 yX8_free wsX8_free) := goodIn_app (goodIn_of _ (by decide +kernel)) ggX8_triesAuction_X8_free
set_option maxRecDepth 20000 in
theorem ggX8_triesAuction_X8_bidsAll : GoodIn wsX8_triesAuction wsX8_bidsAll := goodIn_r _ [17, 18, 13, 19, 20, 21, 4, 22, 7, 6, 23, 24, 25, 26, 27, 28, 29, 30, 31, 32, 33, 34, 35, 36, 37, 38, 39, 8, 40, 41, 42, 43, 44, 45, 46, 47, 48, 49, 50, 51, 52, 53, 54, 55, 56, 57, 58, 59, 60, 61, 62, 63, 64, 65, 66, 67, 68, 69, 70, 71, 72, 73, 74, 75, 76, 77, 78, 79, 80, 81, 82, 83, 84, 85, 86, 87, 88, 89, 90, 91, 92, 93, 94, 95, 96, 97] (by decide +kernel) (by decide +kernel)
set_option maxRecDepth 20000 in
theorem gX8_triesAuction_X8_bidsAll : GoodIn wsX8_triesAuction (wsV RX8 230 RX8 yX8_bidsAll wsX8_bidsAll) := goodIn_app (goodIn_of _ (by decide +kernel)) ggX8_triesAuction_X8_bidsAll
set_option maxRecDepth 20000 in
theorem ggX8_fits_X8_isPair : GoodIn wsX8_fits wsX8_isPair := goodIn_r _ [6, 7, 8, 9, 5, 10, 11, 12, 13, 14, 100, 101, 102, 103, 104, 105, 106, 107, 108, 109, 110, 111, 112, 113, 114, 115, 116, 117, 118, 119, 120, 121, 122, 123, 124, 125, 126, 127, 128, 129, 130, 131, 132, 133, 134, 135] (by decide +kernel) (by decide +kernel)
set_option maxRecDepth 20000 in
theorem gX8_fits_X8_isPair : GoodIn wsX8_fits (wsV RX8 164 RX8 yX8_isPair wsX8_isPair) := goodIn_app (goodIn_of _ (by decide +kernel)) ggX8_fits_X8_isPair
set_option maxRecDepth 20000 in
theorem ggX8_fits_X8_in : GoodIn wsX8_fits wsX8_in := goodIn_r _ [14] (by decide +kernel) (by decide +kernel)
set_option maxRecDepth 20000 in
theorem gX8_fits_X8_in : GoodIn wsX8_fits (va_wsS RX8 92 yX8_in wsX8_in) := goodIn_app (goodIn_of _ (by decide +kernel)) ggX8_fits_X8_in
set_option maxRecDepth 20000 in
theorem ggX8_fits_X8_minds : GoodIn wsX8_fits wsX8_minds := goodIn_r _ [18, 19, 20, 21, 22, 23, 24, 25, 26, 27, 28, 29, 30, 5, 31, 100, 101, 102, 103, 104, 105, 106, 107, 108, 109, 110, 111, 112, 113, 114, 115, 116, 117, 118, 119, 120, 121, 122, 123, 124, 125, 126, 127, 128, 129, 130, 131, 132, 133, 134, 135] (by decide +kernel) (by decide +kernel)
set_option maxRecDepth 20000 in
theorem gX8_fits_X8_minds : GoodIn wsX8_fits (wsV RX8 272 RX8 yX8_minds wsX8_minds) := goodIn_app (goodIn_of _ (by decide +kernel)) ggX8_fits_X8_minds
set_option maxRecDepth 20000 in
theorem ggX8_fits_X8_triesAuction : GoodIn wsX8_fits wsX8_triesAuction := goodIn_r _ [35, 36, 37, 38, 5, 39, 19, 11, 21, 40, 41, 42, 43, 23, 44, 45, 46, 47, 48, 49, 50, 51, 52, 53, 54, 55, 56, 57, 58, 59, 60, 1, 61, 62, 63, 64, 65, 66, 67, 68, 69, 70, 71, 72, 27, 73, 74, 75, 76, 77, 78, 79, 80, 81, 82, 83, 84, 25, 85, 86, 87, 88, 100, 101, 102, 103, 104, 105, 106, 107, 108, 109, 110, 111, 112, 113, 114, 115, 116, 117, 118, 119, 120, 121, 122, 123, 124, 125, 126, 127, 128, 129, 130, 131, 132, 133, 134, 135] (by decide +kernel) (by decide +kernel)
set_option maxRecDepth 20000 in
theorem gX8_fits_X8_triesAuction : GoodIn wsX8_fits (wsV RX8 275 RX8 yX8_triesAuction wsX8_triesAuction) := goodIn_app (goodIn_of _ (by decide +kernel)) ggX8_fits_X8_triesAuction
set_option maxRecDepth 20000 in
theorem ggX8_fits_X8_isAllSeen : GoodIn wsX8_fits wsX8_isAllSeen := goodIn_r _ [92, 93, 19, 94, 95, 100, 101, 102, 103, 104, 105, 106, 107, 108, 109, 110, 111, 112, 113, 114, 115, 116, 117, 118, 119, 120, 121, 122, 123, 124, 125, 126, 127, 128, 129, 130, 131, 132, 133, 134, 135] (by decide +kernel) (by decide +kernel)
set_option maxRecDepth 20000 in
theorem gX8_fits_X8_isAllSeen : GoodIn wsX8_fits (wsV RX8 278 RX8 yX8_isAllSeen wsX8_isAllSeen) := goodIn_app (goodIn_of _ (by decide +kernel)) ggX8_fits_X8_isAllSeen
set_option maxRecDepth 20000 in
theorem ggX8_fits_X8_forgets : GoodIn wsX8_fits wsX8_forgets := goodIn_r _ [99, 20, 19, 22, 21, 24, 23, 26, 25, 28, 27, 29, 30, 5, 31, 100, 101, 102, 103, 104, 105, 106, 107, 108, 109, 110, 111, 112, 113, 114, 115, 116, 117, 118, 119, 120, 121, 122, 123, 124, 125, 126, 127, 128, 129, 130, 131, 132, 133, 134, 135] (by decide +kernel) (by decide +kernel)
set_option maxRecDepth 20000 in
theorem gX8_fits_X8_forgets : GoodIn wsX8_fits (wsV RX8 282 RX8 yX8_forgets wsX8_forgets) := goodIn_app (goodIn_of _ (by decide +kernel)) ggX8_fits_X8_forgets
set_option maxRecDepth 20000 in
theorem ggX8_odds_X8_isOne : GoodIn wsX8_odds wsX8_isOne := goodIn_r _ [9, 10, 11, 12, 8, 13, 94, 95, 96, 97, 98, 99, 100, 101, 102, 103, 104, 105, 106, 107, 108, 109, 110, 111, 112, 113, 114, 115, 116, 117, 118, 119, 120, 121, 122, 123, 124, 125, 126, 127, 128, 129] (by decide +kernel) (by decide +kernel)
set_option maxRecDepth 20000 in
theorem gX8_odds_X8_isOne : GoodIn wsX8_odds (wsV RX8 96 RX8 yX8_isOne wsX8_isOne) := goodIn_app (goodIn_of _ (by decide +kernel)) ggX8_odds_X8_isOne
set_option maxRecDepth 20000 in
theorem ggX8_odds_X8_in : GoodIn wsX8_odds wsX8_in := goodIn_r _ [13] (by decide +kernel) (by decide +kernel)
set_option maxRecDepth 20000 in
theorem gX8_odds_X8_in : GoodIn wsX8_odds (va_wsS RX8 92 yX8_in wsX8_in) := goodIn_app (goodIn_of _ (by decide +kernel)) ggX8_odds_X8_in
set_option maxRecDepth 20000 in
theorem ggX8_odds_X8_minds : GoodIn wsX8_odds wsX8_minds := goodIn_r _ [17, 2, 18, 19, 20, 21, 22, 23, 24, 3, 25, 26, 27, 8, 28, 94, 95, 96, 97, 98, 99, 100, 101, 102, 103, 104, 105, 106, 107, 108, 109, 110, 111, 112, 113, 114, 115, 116, 117, 118, 119, 120, 121, 122, 123, 124, 125, 126, 127, 128, 129] (by decide +kernel) (by decide +kernel)
set_option maxRecDepth 20000 in
theorem gX8_odds_X8_minds : GoodIn wsX8_odds (wsV RX8 272 RX8 yX8_minds wsX8_minds) := goodIn_app (goodIn_of _ (by decide +kernel)) ggX8_odds_X8_minds
set_option maxRecDepth 20000 in
theorem ggX8_odds_X8_triesAuction : GoodIn wsX8_odds wsX8_triesAuction := goodIn_r _ [32, 33, 34, 35, 8, 36, 2, 10, 19, 37, 38, 39, 40, 21, 41, 42, 43, 44, 45, 46, 47, 48, 49, 50, 51, 52, 53, 54, 55, 56, 57, 58, 59, 60, 61, 62, 63, 64, 65, 66, 67, 68, 69, 70, 3, 71, 72, 73, 74, 75, 76, 77, 78, 79, 80, 81, 82, 23, 83, 84, 85, 86, 94, 95, 96, 97, 98, 99, 100, 101, 102, 103, 104, 105, 106, 107, 108, 109, 110, 111, 112, 113, 114, 115, 116, 117, 118, 119, 120, 121, 122, 123, 124, 125, 126, 127, 128, 129] (by decide +kernel) (by decide +kernel)
set_option maxRecDepth 20000 in
theorem gX8_odds_X8_triesAuction : GoodIn wsX8_odds (wsV RX8 275 RX8 yX8_triesAuction wsX8_triesAuction) := goodIn_app (goodIn_of _ (by decide +kernel)) ggX8_odds_X8_triesAuction
set_option maxRecDepth 20000 in
theorem ggX8_odds_X8_forgets : GoodIn wsX8_odds wsX8_forgets := goodIn_r _ [90, 18, 2, 20, 19, 22, 21, 24, 23, 25, 3, 26, 27, 8, 28, 94, 95, 96, 97, 98, 99, 100, 101, 102, 103, 104, 105, 106, 107, 108, 109, 110, 111, 112, 113, 114, 115, 116, 117, 118, 119, 120, 121, 122, 123, 124, 125, 126, 127, 128, 129] (by decide +kernel) (by decide +kernel)
set_option maxRecDepth 20000 in
theorem gX8_odds_X8_forgets : GoodIn wsX8_odds (wsV RX8 282 RX8 yX8_forgets wsX8_forgets) := goodIn_app (goodIn_of _ (by decide +kernel)) ggX8_odds_X8_forgets
set_option maxRecDepth 20000 in
theorem ggX8_odds_X8_lowest : GoodIn wsX8_odds wsX8_lowest := goodIn_r _ [93] (by decide +kernel) (by decide +kernel)
set_option maxRecDepth 20000 in
theorem gX8_odds_X8_lowest : GoodIn wsX8_odds (va_wsS RX8 287 yX8_lowest wsX8_lowest) := goodIn_app (goodIn_of _ (by decide +kernel)) ggX8_odds_X8_lowest
set_option maxRecDepth 20000 in
theorem ggX8_mean_X8_in : GoodIn wsX8_mean wsX8_in := goodIn_r _ [6] (by decide +kernel) (by decide +kernel)
set_option maxRecDepth 20000 in
theorem gX8_mean_X8_in : GoodIn wsX8_mean (va_wsS RX8 92 yX8_in wsX8_in) := goodIn_app (goodIn_of _ (by decide +kernel)) ggX8_mean_X8_in
set_option maxRecDepth 20000 in
theorem ggX8_mean_X8_prices : GoodIn wsX8_mean wsX8_prices := goodIn_r _ [10, 1, 11, 15, 16, 17, 18, 19, 20, 21, 22, 23, 24, 25, 26, 27, 28, 29, 30, 31, 32, 33, 34, 35, 36, 37, 38, 39, 40, 41, 42, 43, 44, 45, 46, 47, 48, 49, 50] (by decide +kernel) (by decide +kernel)
set_option maxRecDepth 20000 in
theorem gX8_mean_X8_prices : GoodIn wsX8_mean (wsV RX8 269 RX8 yX8_prices wsX8_prices) := goodIn_app (goodIn_of _ (by decide +kernel)) ggX8_mean_X8_prices
set_option maxRecDepth 20000 in
theorem ggX8_mean_X8_lowest : GoodIn wsX8_mean wsX8_lowest := goodIn_r _ [14] (by decide +kernel) (by decide +kernel)
set_option maxRecDepth 20000 in
theorem gX8_mean_X8_lowest : GoodIn wsX8_mean (va_wsS RX8 287 yX8_lowest wsX8_lowest) := goodIn_app (goodIn_of _ (by decide +kernel)) ggX8_mean_X8_lowest
set_option maxRecDepth 20000 in
theorem ggX8_plan_X8_in : GoodIn wsX8_plan wsX8_in := goodIn_r _ [9] (by decide +kernel) (by decide +kernel)
set_option maxRecDepth 20000 in
theorem gX8_plan_X8_in : GoodIn wsX8_plan (va_wsS RX8 92 yX8_in wsX8_in) := goodIn_app (goodIn_of _ (by decide +kernel)) ggX8_plan_X8_in
set_option maxRecDepth 20000 in
theorem ggX8_plan_X8_isOne : GoodIn wsX8_plan wsX8_isOne := goodIn_r _ [13, 14, 6, 7, 8, 9, 15, 16, 17, 18, 19, 20, 21, 22, 23, 24, 25, 26, 27, 28, 29, 30, 31, 32, 33, 34, 35, 36, 37, 38, 39, 40, 41, 42, 43, 44, 45, 46, 47, 48, 49, 50] (by decide +kernel) (by decide +kernel)
set_option maxRecDepth 20000 in
theorem gX8_plan_X8_isOne : GoodIn wsX8_plan (wsV RX8 96 RX8 yX8_isOne wsX8_isOne) := goodIn_app (goodIn_of _ (by decide +kernel)) ggX8_plan_X8_isOne
set_option maxRecDepth 20000 in
theorem ggX8_ends_X8_in : GoodIn wsX8_ends wsX8_in := goodIn_r _ [8] (by decide +kernel) (by decide +kernel)
set_option maxRecDepth 20000 in
theorem gX8_ends_X8_in : GoodIn wsX8_ends (va_wsS RX8 92 yX8_in wsX8_in) := goodIn_app (goodIn_of _ (by decide +kernel)) ggX8_ends_X8_in
set_option maxRecDepth 20000 in
theorem ggX8_ends_X8_minds : GoodIn wsX8_ends wsX8_minds := goodIn_r _ [12, 13, 14, 15, 16, 17, 18, 19, 20, 4, 21, 22, 23, 7, 24, 75, 76, 77, 78, 79, 80, 81, 82, 83, 84, 85, 86, 87, 88, 89, 90, 91, 92, 93, 94, 95, 96, 97, 98, 99, 100, 101, 102, 103, 104, 105, 106, 107, 108, 109, 110] (by decide +kernel) (by decide +kernel)
set_option maxRecDepth 20000 in
theorem gX8_ends_X8_minds : GoodIn wsX8_ends (wsV RX8 272 RX8 yX8_minds wsX8_minds) := goodIn_app (goodIn_of _ (by decide +kernel)) ggX8_ends_X8_minds
set_option maxRecDepth 20000 in
theorem ggX8_ends_X8_bid : GoodIn wsX8_ends wsX8_bid := goodIn_r _ [28, 29, 30, 31, 7, 32, 33, 13, 34, 35, 36, 37, 38, 39, 40, 41, 42, 43, 44, 45, 46, 17, 47, 48, 49, 50, 15, 51, 52, 53, 54, 4, 55, 56, 57, 58, 59, 60, 61, 62, 75, 76, 77, 78, 79, 80, 81, 82, 83, 84, 85, 86, 87, 88, 89, 90, 91, 92, 93, 94, 95, 96, 97, 98, 99, 100, 101, 102, 103, 104, 105, 106, 107, 108, 109, 110] (by decide +kernel) (by decide +kernel)
set_option maxRecDepth 20000 in
theorem gX8_ends_X8_bid : GoodIn wsX8_ends (wsV RX8 293 RX8 yX8_bid wsX8_bid) := goodIn_app (goodIn_of _ (by decide +kernel)) ggX8_ends_X8_bid
set_option maxRecDepth 20000 in
theorem ggX8_ends_X8_loses : GoodIn wsX8_ends wsX8_loses := goodIn_r _ [62, 13, 15, 75, 76, 77, 78, 79, 80, 81, 82, 83, 84, 85, 86, 87, 88, 89, 90, 91, 92, 93, 94, 95, 96, 97, 98, 99, 100, 101, 102, 103, 104, 105, 106, 107, 108, 109, 110] (by decide +kernel) (by decide +kernel)
set_option maxRecDepth 20000 in
theorem gX8_ends_X8_loses : GoodIn wsX8_ends (wsV RX8 155 RX8 yX8_loses wsX8_loses) := goodIn_app (goodIn_of _ (by decide +kernel)) ggX8_ends_X8_loses
set_option maxRecDepth 20000 in
theorem ggX8_ends_X8_sum : GoodIn wsX8_ends wsX8_sum := goodIn_r _ [66, 33, 13, 42, 75, 76, 77, 78, 79, 80, 81, 82, 83, 84, 85, 86, 87, 88, 89, 90, 91, 92, 93, 94, 95, 96, 97, 98, 99, 100, 101, 102, 103, 104, 105, 106, 107, 108, 109, 110] (by decide +kernel) (by decide +kernel)
set_option maxRecDepth 20000 in
theorem gX8_ends_X8_sum : GoodIn wsX8_ends (wsV RX8 254 RX8 yX8_sum wsX8_sum) := goodIn_app (goodIn_of _ (by decide +kernel)) ggX8_ends_X8_sum
set_option maxRecDepth 20000 in
theorem ggX8_ends_X8_prices : GoodIn wsX8_ends wsX8_prices := goodIn_r _ [70, 33, 17, 75, 76, 77, 78, 79, 80, 81, 82, 83, 84, 85, 86, 87, 88, 89, 90, 91, 92, 93, 94, 95, 96, 97, 98, 99, 100, 101, 102, 103, 104, 105, 106, 107, 108, 109, 110] (by decide +kernel) (by decide +kernel)
set_option maxRecDepth 20000 in
theorem gX8_ends_X8_prices : GoodIn wsX8_ends (wsV RX8 269 RX8 yX8_prices wsX8_prices) := goodIn_app (goodIn_of _ (by decide +kernel)) ggX8_ends_X8_prices
set_option maxRecDepth 20000 in
theorem ggX8_ends_X8_forgets : GoodIn wsX8_ends wsX8_forgets := goodIn_r _ [74, 14, 13, 16, 15, 18, 17, 20, 19, 21, 4, 22, 23, 7, 24, 75, 76, 77, 78, 79, 80, 81, 82, 83, 84, 85, 86, 87, 88, 89, 90, 91, 92, 93, 94, 95, 96, 97, 98, 99, 100, 101, 102, 103, 104, 105, 106, 107, 108, 109, 110] (by decide +kernel) (by decide +kernel)
set_option maxRecDepth 20000 in
theorem gX8_ends_X8_forgets : GoodIn wsX8_ends (wsV RX8 282 RX8 yX8_forgets wsX8_forgets) := goodIn_app (goodIn_of _ (by decide +kernel)) ggX8_ends_X8_forgets
set_option maxRecDepth 20000 in
theorem ggX8_book_X8_isOne : GoodIn wsX8_book wsX8_isOne := goodIn_r _ [9, 10, 11, 12, 8, 13, 14, 15, 16, 17, 18, 19, 20, 21, 22, 23, 24, 25, 26, 27, 28, 29, 30, 31, 32, 33, 34, 35, 36, 37, 38, 39, 40, 41, 42, 43, 44, 45, 46, 47, 48, 49] (by decide +kernel) (by decide +kernel)
set_option maxRecDepth 20000 in
theorem gX8_book_X8_isOne : GoodIn wsX8_book (wsV RX8 96 RX8 yX8_isOne wsX8_isOne) := goodIn_app (goodIn_of _ (by decide +kernel)) ggX8_book_X8_isOne
set_option maxRecDepth 20000 in
theorem ggX8_book_X8_in : GoodIn wsX8_book wsX8_in := goodIn_r _ [13] (by decide +kernel) (by decide +kernel)
set_option maxRecDepth 20000 in
theorem gX8_book_X8_in : GoodIn wsX8_book (va_wsS RX8 92 yX8_in wsX8_in) := goodIn_app (goodIn_of _ (by decide +kernel)) ggX8_book_X8_in
set_option maxRecDepth 20000 in
theorem ggX8_isTape_X8_in : GoodIn wsX8_isTape wsX8_in := goodIn_r _ [5] (by decide +kernel) (by decide +kernel)
set_option maxRecDepth 20000 in
theorem gX8_isTape_X8_in : GoodIn wsX8_isTape (va_wsS RX8 92 yX8_in wsX8_in) := goodIn_app (goodIn_of _ (by decide +kernel)) ggX8_isTape_X8_in
set_option maxRecDepth 20000 in
theorem ggX8_judge_X8_isTape : GoodIn wsX8_judge wsX8_isTape := goodIn_r _ [9, 10, 11, 12, 8, 13] (by decide +kernel) (by decide +kernel)
set_option maxRecDepth 20000 in
theorem gX8_judge_X8_isTape : GoodIn wsX8_judge (va_wsS RX8 300 yX8_isTape wsX8_isTape) := goodIn_app (goodIn_of _ (by decide +kernel)) ggX8_judge_X8_isTape
set_option maxRecDepth 20000 in
theorem ggX8_count_X8_forbidden : GoodIn wsX8_count wsX8_forbidden := goodIn_r _ [10, 1, 11, 12, 13, 9, 14, 15, 16, 17, 18, 19, 20, 21, 22, 23, 24, 25, 26, 27, 28, 29, 30, 31, 32, 33, 34, 35, 36, 37, 38, 39, 40, 41, 42, 43, 44, 45, 46, 47, 48, 49, 50, 51, 52, 53, 54, 55, 56, 57, 58] (by decide +kernel) (by decide +kernel)
set_option maxRecDepth 20000 in
theorem gX8_count_X8_forbidden : GoodIn wsX8_count (wsV RX8 303 RX8 yX8_forbidden wsX8_forbidden) := goodIn_app (goodIn_of _ (by decide +kernel)) ggX8_count_X8_forbidden
set_option maxRecDepth 20000 in
theorem ggX8_forbidden_X8_open : GoodIn wsX8_forbidden wsX8_open := goodIn_r _ [6, 1, 7, 8, 9, 5, 10, 11, 15, 16, 17, 18, 19, 20, 21, 22, 23, 24, 25, 26, 27, 28, 29, 30, 31, 32, 33, 34, 35, 36, 37, 38, 39, 40, 41, 42, 43, 44, 45, 46, 47, 48, 49, 50] (by decide +kernel) (by decide +kernel)
set_option maxRecDepth 20000 in
theorem gX8_forbidden_X8_open : GoodIn wsX8_forbidden (wsV RX8 240 RX8 yX8_open wsX8_open) := goodIn_app (goodIn_of _ (by decide +kernel)) ggX8_forbidden_X8_open
set_option maxRecDepth 20000 in
theorem ggX8_forbidden_X8_bits : GoodIn wsX8_forbidden wsX8_bits := goodIn_r _ [14] (by decide +kernel) (by decide +kernel)
set_option maxRecDepth 20000 in
theorem gX8_forbidden_X8_bits : GoodIn wsX8_forbidden (va_wsS RX8 243 yX8_bits wsX8_bits) := goodIn_app (goodIn_of _ (by decide +kernel)) ggX8_forbidden_X8_bits
set_option maxRecDepth 20000 in
theorem ggX8_tape_X8_isTape : GoodIn wsX8_tape wsX8_isTape := goodIn_r _ [9, 10, 11, 12, 8, 13] (by decide +kernel) (by decide +kernel)
set_option maxRecDepth 20000 in
theorem gX8_tape_X8_isTape : GoodIn wsX8_tape (va_wsS RX8 300 yX8_isTape wsX8_isTape) := goodIn_app (goodIn_of _ (by decide +kernel)) ggX8_tape_X8_isTape
set_option maxRecDepth 20000 in
theorem ggX8_tape_X8_in : GoodIn wsX8_tape wsX8_in := goodIn_r _ [13] (by decide +kernel) (by decide +kernel)
set_option maxRecDepth 20000 in
theorem gX8_tape_X8_in : GoodIn wsX8_tape (va_wsS RX8 92 yX8_in wsX8_in) := goodIn_app (goodIn_of _ (by decide +kernel)) ggX8_tape_X8_in
set_option maxRecDepth 20000 in
theorem ggX8_item_X8_isTape : GoodIn wsX8_item wsX8_isTape := goodIn_r _ [7, 8, 9, 10, 6, 11] (by decide +kernel) (by decide +kernel)
set_option maxRecDepth 20000 in
theorem gX8_item_X8_isTape : GoodIn wsX8_item (va_wsS RX8 300 yX8_isTape wsX8_isTape) := goodIn_app (goodIn_of _ (by decide +kernel)) ggX8_item_X8_isTape
set_option maxRecDepth 20000 in
theorem ggX8_item_X8_in : GoodIn wsX8_item wsX8_in := goodIn_r _ [11] (by decide +kernel) (by decide +kernel)
set_option maxRecDepth 20000 in
theorem gX8_item_X8_in : GoodIn wsX8_item (va_wsS RX8 92 yX8_in wsX8_in) := goodIn_app (goodIn_of _ (by decide +kernel)) ggX8_item_X8_in
set_option maxRecDepth 20000 in
theorem ggX8_item_X8_fit : GoodIn wsX8_item wsX8_fit := goodIn_r _ [14] (by decide +kernel) (by decide +kernel)
set_option maxRecDepth 20000 in
theorem gX8_item_X8_fit : GoodIn wsX8_item (va_wsS RX8 308 yX8_fit wsX8_fit) := goodIn_app (goodIn_of _ (by decide +kernel)) ggX8_item_X8_fit
set_option maxRecDepth 20000 in
theorem ggX8_peek_X8_isTape : GoodIn wsX8_peek wsX8_isTape := goodIn_r _ [8, 9, 10, 11, 7, 12] (by decide +kernel) (by decide +kernel)
set_option maxRecDepth 20000 in
theorem gX8_peek_X8_isTape : GoodIn wsX8_peek (va_wsS RX8 300 yX8_isTape wsX8_isTape) := goodIn_app (goodIn_of _ (by decide +kernel)) ggX8_peek_X8_isTape
set_option maxRecDepth 20000 in
theorem ggX8_peek_X8_in : GoodIn wsX8_peek wsX8_in := goodIn_r _ [12] (by decide +kernel) (by decide +kernel)
set_option maxRecDepth 20000 in
theorem gX8_peek_X8_in : GoodIn wsX8_peek (va_wsS RX8 92 yX8_in wsX8_in) := goodIn_app (goodIn_of _ (by decide +kernel)) ggX8_peek_X8_in
set_option maxRecDepth 20000 in
theorem ggX8_shift_X8_isTape : GoodIn wsX8_shift wsX8_isTape := goodIn_r _ [8, 9, 10, 11, 7, 12] (by decide +kernel) (by decide +kernel)
set_option maxRecDepth 20000 in
theorem gX8_shift_X8_isTape : GoodIn wsX8_shift (va_wsS RX8 300 yX8_isTape wsX8_isTape) := goodIn_app (goodIn_of _ (by decide +kernel)) ggX8_shift_X8_isTape
