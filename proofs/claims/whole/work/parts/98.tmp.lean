theorem pure_main {L : Nat} {xs : Nat → Int32} (hL : L ≤ 2560) : PureMain L xs := sorry
