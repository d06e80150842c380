/-! CHECKS OF THE CODE of a long method, in pieces. By program (wip/p63/gen4.py). -/
set_option maxRecDepth 100000 in
theorem pk_151_000001 : pAll 5 (pLeaf 151) 32 64 pI_151.1.1.1.1.1.2 = true := by decide +kernel
set_option maxRecDepth 100000 in
theorem pk_151_000101 : pAll 5 (pLeaf 151) 40 64 pI_151.1.1.1.2.1.2 = true := by decide +kernel
set_option maxRecDepth 100000 in
theorem pk_151_001001 : pAll 5 (pLeaf 151) 36 64 pI_151.1.1.2.1.1.2 = true := by decide +kernel
set_option maxRecDepth 100000 in
theorem pk_151_001101 : pAll 5 (pLeaf 151) 44 64 pI_151.1.1.2.2.1.2 = true := by decide +kernel
set_option maxRecDepth 100000 in
theorem pk_151_010001 : pAll 5 (pLeaf 151) 34 64 pI_151.1.2.1.1.1.2 = true := by decide +kernel
set_option maxRecDepth 100000 in
theorem pk_151_010101 : pAll 5 (pLeaf 151) 42 64 pI_151.1.2.1.2.1.2 = true := by decide +kernel
set_option maxRecDepth 100000 in
theorem pk_151_011001 : pAll 5 (pLeaf 151) 38 64 pI_151.1.2.2.1.1.2 = true := by decide +kernel
set_option maxRecDepth 100000 in
theorem pk_151_011101 : pAll 5 (pLeaf 151) 46 64 pI_151.1.2.2.2.1.2 = true := by decide +kernel
set_option maxRecDepth 100000 in
theorem pk_151_100001 : pAll 5 (pLeaf 151) 33 64 pI_151.2.1.1.1.1.2 = true := by decide +kernel
set_option maxRecDepth 100000 in
theorem pk_151_100101 : pAll 5 (pLeaf 151) 41 64 pI_151.2.1.1.2.1.2 = true := by decide +kernel
set_option maxRecDepth 100000 in
theorem pk_151_101001 : pAll 5 (pLeaf 151) 37 64 pI_151.2.1.2.1.1.2 = true := by decide +kernel
set_option maxRecDepth 100000 in
theorem pk_151_101101 : pAll 5 (pLeaf 151) 45 64 pI_151.2.1.2.2.1.2 = true := by decide +kernel
set_option maxRecDepth 100000 in
theorem pk_151_110001 : pAll 5 (pLeaf 151) 35 64 pI_151.2.2.1.1.1.2 = true := by decide +kernel
set_option maxRecDepth 100000 in
theorem pk_151_110101 : pAll 5 (pLeaf 151) 43 64 pI_151.2.2.1.2.1.2 = true := by decide +kernel
set_option maxRecDepth 100000 in
theorem pk_151_111001 : pAll 5 (pLeaf 151) 39 64 pI_151.2.2.2.1.1.2 = true := by decide +kernel
set_option maxRecDepth 100000 in
theorem pk_151_111101 : pAll 5 (pLeaf 151) 47 64 pI_151.2.2.2.2.1.2 = true := by decide +kernel
