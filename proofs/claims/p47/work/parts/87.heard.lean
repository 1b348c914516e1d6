theorem u32_or6 {a b : Nat} (ha : a < 64) (hb : b < 64) : u32 a ||| u32 b = u32 (a ||| b) := (u32_or ha hb).1
