-- what is used of the doubles
theorem f_halved_c {K : Int → St → Prop} {σ : St} {n k r : Int} (hn0 : 0 ≤ n) (hn1 : n ≤ 1000) (hk0 : 0 ≤ k) (hk1 : k ≤ 400) (hr0 : 1 ≤ r) (hr1 : r ≤ 500) (hK : K (UP n k r) σ) : CI M_Fa_halved [vR 26, vI n, vI k, vI r] σ K := f_halved_c' hn0 hn1 hk0 hk1 hr0 hr1 hK
theorem UP_k {n k r : Int} (hk0 : 0 ≤ k) (hn : n ≤ 1000) (hr0 : 1 ≤ r) (hr1 : r ≤ 500) : UP n k r ≤ UP n (k + 1) r := UP_k' hk0 hn hr0 hr1
theorem UP_n {n k r : Int} (hk0 : 0 ≤ k) (hk1 : k ≤ 9) (hn0 : 1 ≤ n) (hn1 : n < 400) (hr0 : 1 ≤ r) (hr1 : r ≤ 500) : UP (n + 1) k r ≤ UP n k r := UP_n' hk0 hk1 hn0 hn1 hr0 hr1

